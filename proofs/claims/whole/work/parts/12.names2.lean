theorem dX3_serve_26 : decode cX3_serve 26 = .ok (.tableswitch 145 0 6 #[42, 63, 73, 91, 63, 108, 127], 42) := by decide +kernel
theorem dX3_serve_68 : decode cX3_serve 68 = .ok (.aload_n 0, 1) := by decide +kernel
theorem dX3_serve_69 : decode cX3_serve 69 = .ok (.aload_n 0, 1) := by decide +kernel
theorem dX3_serve_70 : decode cX3_serve 70 = .ok (.getfield 73, 3) := by decide +kernel
theorem dX3_serve_73 : decode cX3_serve 73 = .ok (.iload_n 2, 1) := by decide +kernel
theorem dX3_serve_74 : decode cX3_serve 74 = .ok (.invokestatic 123, 3) := by decide +kernel
theorem dX3_serve_77 : decode cX3_serve 77 = .ok (.putfield 73, 3) := by decide +kernel
theorem dX3_serve_80 : decode cX3_serve 80 = .ok (.aload_n 0, 1) := by decide +kernel
theorem dX3_serve_81 : decode cX3_serve 81 = .ok (.iload_n 1, 1) := by decide +kernel
theorem dX3_serve_82 : decode cX3_serve 82 = .ok (.iload_n 2, 1) := by decide +kernel
theorem dX3_serve_83 : decode cX3_serve 83 = .ok (.invokevirtual 127, 3) := by decide +kernel
theorem dX3_serve_86 : decode cX3_serve 86 = .ok (.goto 102, 3) := by decide +kernel
theorem dX3_serve_89 : decode cX3_serve 89 = .ok (.aload_n 0, 1) := by decide +kernel
theorem dX3_serve_90 : decode cX3_serve 90 = .ok (.iload_n 1, 1) := by decide +kernel
theorem dX3_serve_91 : decode cX3_serve 91 = .ok (.iload_n 2, 1) := by decide +kernel
theorem dX3_serve_92 : decode cX3_serve 92 = .ok (.iload_n 3, 1) := by decide +kernel
theorem dX3_serve_93 : decode cX3_serve 93 = .ok (.invokevirtual 131, 3) := by decide +kernel
theorem dX3_serve_96 : decode cX3_serve 96 = .ok (.goto 92, 3) := by decide +kernel
theorem dX3_serve_99 : decode cX3_serve 99 = .ok (.aload_n 0, 1) := by decide +kernel
theorem dX3_serve_100 : decode cX3_serve 100 = .ok (.iload_n 1, 1) := by decide +kernel
theorem dX3_serve_101 : decode cX3_serve 101 = .ok (.aload_n 0, 1) := by decide +kernel
theorem dX3_serve_102 : decode cX3_serve 102 = .ok (.getfield 35, 3) := by decide +kernel
theorem dX3_serve_105 : decode cX3_serve 105 = .ok (.iload_n 2, 1) := by decide +kernel
theorem dX3_serve_106 : decode cX3_serve 106 = .ok (.iload_n 2, 1) := by decide +kernel
theorem dX3_serve_107 : decode cX3_serve 107 = .ok (.iload_n 3, 1) := by decide +kernel
theorem dX3_serve_108 : decode cX3_serve 108 = .ok (.invokevirtual 135, 3) := by decide +kernel
theorem dX3_serve_111 : decode cX3_serve 111 = .ok (.invokevirtual 141, 3) := by decide +kernel
theorem dX3_serve_114 : decode cX3_serve 114 = .ok (.goto 74, 3) := by decide +kernel
theorem dX3_serve_117 : decode cX3_serve 117 = .ok (.aload_n 0, 1) := by decide +kernel
theorem dX3_serve_118 : decode cX3_serve 118 = .ok (.iload_n 1, 1) := by decide +kernel
theorem dX3_serve_119 : decode cX3_serve 119 = .ok (.aload_n 0, 1) := by decide +kernel
theorem dX3_serve_120 : decode cX3_serve 120 = .ok (.getfield 35, 3) := by decide +kernel
theorem dX3_serve_123 : decode cX3_serve 123 = .ok (.iload_n 2, 1) := by decide +kernel
theorem dX3_serve_124 : decode cX3_serve 124 = .ok (.iload_n 3, 1) := by decide +kernel
theorem dX3_serve_125 : decode cX3_serve 125 = .ok (.invokevirtual 144, 3) := by decide +kernel
theorem dX3_serve_128 : decode cX3_serve 128 = .ok (.invokevirtual 147, 3) := by decide +kernel
theorem dX3_serve_131 : decode cX3_serve 131 = .ok (.goto 57, 3) := by decide +kernel
theorem dX3_serve_134 : decode cX3_serve 134 = .ok (.aload_n 0, 1) := by decide +kernel
theorem dX3_serve_135 : decode cX3_serve 135 = .ok (.getfield 9, 3) := by decide +kernel
theorem dX3_serve_138 : decode cX3_serve 138 = .ok (.iload_n 2, 1) := by decide +kernel
theorem dX3_serve_139 : decode cX3_serve 139 = .ok (.aload_n 0, 1) := by decide +kernel
theorem dX3_serve_140 : decode cX3_serve 140 = .ok (.getfield 9, 3) := by decide +kernel
theorem dX3_serve_143 : decode cX3_serve 143 = .ok (.iload_n 2, 1) := by decide +kernel
theorem dX3_serve_144 : decode cX3_serve 144 = .ok (.laload, 1) := by decide +kernel
theorem dX3_serve_145 : decode cX3_serve 145 = .ok (.iload_n 3, 1) := by decide +kernel
theorem dX3_serve_146 : decode cX3_serve 146 = .ok (.invokestatic 123, 3) := by decide +kernel
theorem dX3_serve_149 : decode cX3_serve 149 = .ok (.lastore, 1) := by decide +kernel
theorem dX3_serve_150 : decode cX3_serve 150 = .ok (.goto 38, 3) := by decide +kernel
theorem dX3_serve_153 : decode cX3_serve 153 = .ok (.aload_n 0, 1) := by decide +kernel
theorem dX3_serve_154 : decode cX3_serve 154 = .ok (.getfield 15, 3) := by decide +kernel
theorem dX3_serve_157 : decode cX3_serve 157 = .ok (.iload_n 1, 1) := by decide +kernel
theorem dX3_serve_158 : decode cX3_serve 158 = .ok (.dup2, 1) := by decide +kernel
theorem dX3_serve_159 : decode cX3_serve 159 = .ok (.laload, 1) := by decide +kernel
theorem dX3_serve_160 : decode cX3_serve 160 = .ok (.aload_n 0, 1) := by decide +kernel
theorem dX3_serve_161 : decode cX3_serve 161 = .ok (.getfield 9, 3) := by decide +kernel
theorem dX3_serve_164 : decode cX3_serve 164 = .ok (.iload_n 2, 1) := by decide +kernel
theorem dX3_serve_165 : decode cX3_serve 165 = .ok (.laload, 1) := by decide +kernel
theorem dX3_serve_166 : decode cX3_serve 166 = .ok (.lor, 1) := by decide +kernel
theorem dX3_serve_167 : decode cX3_serve 167 = .ok (.lastore, 1) := by decide +kernel
theorem dX3_serve_168 : decode cX3_serve 168 = .ok (.goto 20, 3) := by decide +kernel
theorem dX3_serve_171 : decode cX3_serve 171 = .ok (.aload_n 0, 1) := by decide +kernel
theorem dX3_serve_172 : decode cX3_serve 172 = .ok (.getfield 15, 3) := by decide +kernel
theorem dX3_serve_175 : decode cX3_serve 175 = .ok (.iload_n 1, 1) := by decide +kernel
theorem dX3_serve_176 : decode cX3_serve 176 = .ok (.dup2, 1) := by decide +kernel
theorem dX3_serve_177 : decode cX3_serve 177 = .ok (.laload, 1) := by decide +kernel
theorem dX3_serve_178 : decode cX3_serve 178 = .ok (.aload_n 0, 1) := by decide +kernel
theorem dX3_serve_179 : decode cX3_serve 179 = .ok (.getfield 31, 3) := by decide +kernel
theorem dX3_serve_182 : decode cX3_serve 182 = .ok (.iload_n 3, 1) := by decide +kernel
theorem dX3_serve_183 : decode cX3_serve 183 = .ok (.invokevirtual 150, 3) := by decide +kernel
theorem dX3_serve_186 : decode cX3_serve 186 = .ok (.lor, 1) := by decide +kernel
theorem dX3_serve_187 : decode cX3_serve 187 = .ok (.lastore, 1) := by decide +kernel
theorem dX3_serve_188 : decode cX3_serve 188 = .ok (.return_, 1) := by decide +kernel
set_option maxRecDepth 20000 in
theorem ggX3_serveMade_X6_size : GoodIn wsX3_serveMade wsX6_size := goodIn_r _ [8, 9, 53, 54, 55, 56, 57, 58] rfl (by decide +kernel)
set_option maxRecDepth 20000 in
theorem gX3_serveMade_X6_size : GoodIn wsX3_serveMade (wsV RX3 154 RX6 yX6_size wsX6_size) := goodIn_app (goodIn_of _ (by decide +kernel)) ggX3_serveMade_X6_size
set_option maxRecDepth 20000 in
theorem ggX3_serveMade_X0_has : GoodIn wsX3_serveMade wsX0_has := goodIn_r _ [13] rfl (by decide +kernel)
set_option maxRecDepth 20000 in
theorem gX3_serveMade_X0_has : GoodIn wsX3_serveMade (va_wsS RX3 94 yX0_has wsX0_has) := goodIn_app (goodIn_of _ (by decide +kernel)) ggX3_serveMade_X0_has
set_option maxRecDepth 20000 in
theorem ggX3_serveMade_X6_isUnder : GoodIn wsX3_serveMade wsX6_isUnder := goodIn_r _ [17, 18, 19, 11, 12, 13, 53, 54, 55, 56, 57, 58] rfl (by decide +kernel)
set_option maxRecDepth 20000 in
theorem gX3_serveMade_X6_isUnder : GoodIn wsX3_serveMade (wsV RX3 157 RX6 yX6_isUnder wsX6_isUnder) := goodIn_app (goodIn_of _ (by decide +kernel)) ggX3_serveMade_X6_isUnder
set_option maxRecDepth 20000 in
theorem ggX3_serveMade_X1_choose : GoodIn wsX3_serveMade wsX1_choose := goodIn_r _ [24, 25, 26, 27, 28, 29, 30, 31, 32, 33, 59, 60, 61, 62, 63, 64, 65, 66, 67, 68, 69, 70, 71, 72, 73] rfl (by decide +kernel)
set_option maxRecDepth 20000 in
theorem gX3_serveMade_X1_choose : GoodIn wsX3_serveMade (wsV RX3 135 RX1 yX1_choose wsX1_choose) := goodIn_app (goodIn_of _ (by decide +kernel)) ggX3_serveMade_X1_choose
set_option maxRecDepth 20000 in
theorem ggX3_serveMade_X3_addCallee : GoodIn wsX3_serveMade wsX3_addCallee := goodIn_r _ [38, 39, 40, 41, 42, 43, 44, 45, 46, 47, 48, 49, 50, 51, 52] rfl (by decide +kernel)
set_option maxRecDepth 20000 in
theorem gX3_serveMade_X3_addCallee : GoodIn wsX3_serveMade (wsV RX3 141 RX3 yX3_addCallee wsX3_addCallee) := goodIn_app (goodIn_of _ (by decide +kernel)) ggX3_serveMade_X3_addCallee
theorem dX3_serveMade_0 : decode cX3_serveMade 0 = .ok (.iconst 0, 1) := by decide +kernel
theorem dX3_serveMade_1 : decode cX3_serveMade 1 = .ok (.istore 4, 2) := by decide +kernel
theorem dX3_serveMade_3 : decode cX3_serveMade 3 = .ok (.iload 4, 2) := by decide +kernel
theorem dX3_serveMade_5 : decode cX3_serveMade 5 = .ok (.aload_n 0, 1) := by decide +kernel
theorem dX3_serveMade_6 : decode cX3_serveMade 6 = .ok (.getfield 27, 3) := by decide +kernel
theorem dX3_serveMade_9 : decode cX3_serveMade 9 = .ok (.invokevirtual 154, 3) := by decide +kernel
theorem dX3_serveMade_12 : decode cX3_serveMade 12 = .ok (.if_icmp .ge 53, 3) := by decide +kernel
theorem dX3_serveMade_15 : decode cX3_serveMade 15 = .ok (.aload_n 0, 1) := by decide +kernel
theorem dX3_serveMade_16 : decode cX3_serveMade 16 = .ok (.getfield 73, 3) := by decide +kernel
theorem dX3_serveMade_19 : decode cX3_serveMade 19 = .ok (.iload 4, 2) := by decide +kernel
theorem dX3_serveMade_21 : decode cX3_serveMade 21 = .ok (.invokestatic 94, 3) := by decide +kernel
theorem dX3_serveMade_24 : decode cX3_serveMade 24 = .ok (.ifCond .eq 35, 3) := by decide +kernel
theorem dX3_serveMade_27 : decode cX3_serveMade 27 = .ok (.aload_n 0, 1) := by decide +kernel
theorem dX3_serveMade_28 : decode cX3_serveMade 28 = .ok (.getfield 27, 3) := by decide +kernel
theorem dX3_serveMade_31 : decode cX3_serveMade 31 = .ok (.iload 4, 2) := by decide +kernel
theorem dX3_serveMade_33 : decode cX3_serveMade 33 = .ok (.iload_n 2, 1) := by decide +kernel
theorem dX3_serveMade_34 : decode cX3_serveMade 34 = .ok (.invokevirtual 157, 3) := by decide +kernel
theorem dX3_serveMade_37 : decode cX3_serveMade 37 = .ok (.ifCond .ne 6, 3) := by decide +kernel
theorem dX3_serveMade_40 : decode cX3_serveMade 40 = .ok (.goto 19, 3) := by decide +kernel
theorem dX3_serveMade_43 : decode cX3_serveMade 43 = .ok (.aload_n 0, 1) := by decide +kernel
theorem dX3_serveMade_44 : decode cX3_serveMade 44 = .ok (.iload_n 1, 1) := by decide +kernel
theorem dX3_serveMade_45 : decode cX3_serveMade 45 = .ok (.aload_n 0, 1) := by decide +kernel
theorem dX3_serveMade_46 : decode cX3_serveMade 46 = .ok (.getfield 35, 3) := by decide +kernel
theorem dX3_serveMade_49 : decode cX3_serveMade 49 = .ok (.iload 4, 2) := by decide +kernel
theorem dX3_serveMade_51 : decode cX3_serveMade 51 = .ok (.iload_n 2, 1) := by decide +kernel
theorem dX3_serveMade_52 : decode cX3_serveMade 52 = .ok (.iload_n 3, 1) := by decide +kernel
theorem dX3_serveMade_53 : decode cX3_serveMade 53 = .ok (.invokevirtual 135, 3) := by decide +kernel
theorem dX3_serveMade_56 : decode cX3_serveMade 56 = .ok (.invokevirtual 141, 3) := by decide +kernel
theorem dX3_serveMade_59 : decode cX3_serveMade 59 = .ok (.iinc 4 1, 3) := by decide +kernel
theorem dX3_serveMade_62 : decode cX3_serveMade 62 = .ok (.goto (-59), 3) := by decide +kernel
theorem dX3_serveMade_65 : decode cX3_serveMade 65 = .ok (.return_, 1) := by decide +kernel
set_option maxRecDepth 20000 in
theorem ggX3_serveStatic_X3_addCallee : GoodIn wsX3_serveStatic wsX3_addCallee := goodIn_r _ [6, 7, 55, 56, 57, 58, 59, 60, 61, 62, 63, 64, 65, 66, 67] rfl (by decide +kernel)
set_option maxRecDepth 20000 in
theorem gX3_serveStatic_X3_addCallee : GoodIn wsX3_serveStatic (wsV RX3 141 RX3 yX3_addCallee wsX3_addCallee) := goodIn_app (goodIn_of _ (by decide +kernel)) ggX3_serveStatic_X3_addCallee
set_option maxRecDepth 20000 in
theorem ggX3_serveStatic_X4_typeOf : GoodIn wsX3_serveStatic wsX4_typeOf := goodIn_r _ [12, 13, 68, 69, 70, 71, 72, 73, 74, 75, 76, 77, 78] rfl (by decide +kernel)
set_option maxRecDepth 20000 in
theorem gX3_serveStatic_X4_typeOf : GoodIn wsX3_serveStatic (wsV RX3 161 RX4 yX4_typeOf wsX4_typeOf) := goodIn_app (goodIn_of _ (by decide +kernel)) ggX3_serveStatic_X4_typeOf
set_option maxRecDepth 20000 in
theorem ggX3_serveStatic_X3_begin : GoodIn wsX3_serveStatic wsX3_begin := goodIn_r _ [17, 1, 18, 19, 20, 21, 22, 11, 23, 24, 25, 26, 27, 28, 29, 30, 31, 32, 33, 34, 35, 36, 37, 38, 39, 40, 41, 42, 43, 44, 45, 46, 47, 48, 49, 50, 51, 52, 53, 54, 2, 3, 4, 5, 6, 7, 55, 56, 57, 58, 59, 60, 61, 62, 63, 64, 65, 66, 67, 68, 69, 70, 71, 72, 73, 74, 75, 76, 77, 78, 79, 80, 81, 82, 83, 84] rfl (by decide +kernel)
set_option maxRecDepth 20000 in
theorem gX3_serveStatic_X3_begin : GoodIn wsX3_serveStatic (wsV RX3 127 RX3 yX3_begin wsX3_begin) := goodIn_app (goodIn_of _ (by decide +kernel)) ggX3_serveStatic_X3_begin
theorem dX3_serveStatic_0 : decode cX3_serveStatic 0 = .ok (.iload_n 2, 1) := by decide +kernel
theorem dX3_serveStatic_1 : decode cX3_serveStatic 1 = .ok (.ifCond .ge 4, 3) := by decide +kernel
theorem dX3_serveStatic_4 : decode cX3_serveStatic 4 = .ok (.return_, 1) := by decide +kernel
theorem dX3_serveStatic_5 : decode cX3_serveStatic 5 = .ok (.aload_n 0, 1) := by decide +kernel
theorem dX3_serveStatic_6 : decode cX3_serveStatic 6 = .ok (.iload_n 1, 1) := by decide +kernel
theorem dX3_serveStatic_7 : decode cX3_serveStatic 7 = .ok (.iload_n 2, 1) := by decide +kernel
theorem dX3_serveStatic_8 : decode cX3_serveStatic 8 = .ok (.invokevirtual 141, 3) := by decide +kernel
theorem dX3_serveStatic_11 : decode cX3_serveStatic 11 = .ok (.aload_n 0, 1) := by decide +kernel
theorem dX3_serveStatic_12 : decode cX3_serveStatic 12 = .ok (.iload_n 1, 1) := by decide +kernel
theorem dX3_serveStatic_13 : decode cX3_serveStatic 13 = .ok (.aload_n 0, 1) := by decide +kernel
theorem dX3_serveStatic_14 : decode cX3_serveStatic 14 = .ok (.getfield 31, 3) := by decide +kernel
theorem dX3_serveStatic_17 : decode cX3_serveStatic 17 = .ok (.iload_n 2, 1) := by decide +kernel
theorem dX3_serveStatic_18 : decode cX3_serveStatic 18 = .ok (.invokevirtual 161, 3) := by decide +kernel
theorem dX3_serveStatic_21 : decode cX3_serveStatic 21 = .ok (.invokevirtual 127, 3) := by decide +kernel
theorem dX3_serveStatic_24 : decode cX3_serveStatic 24 = .ok (.return_, 1) := by decide +kernel
set_option maxRecDepth 20000 in
theorem ggX3_begin_X4_facesBegunWith : GoodIn wsX3_begin wsX4_facesBegunWith := goodIn_r _ [8, 9, 10, 11, 12, 13, 14, 15, 16, 17, 18, 19, 20, 21, 22, 59, 60, 61, 62, 63, 64, 65, 66, 67, 68, 69, 70, 71, 72, 73, 74, 75] rfl (by decide +kernel)
set_option maxRecDepth 20000 in
theorem gX3_begin_X4_facesBegunWith : GoodIn wsX3_begin (wsV RX3 164 RX4 yX4_facesBegunWith wsX4_facesBegunWith) := goodIn_app (goodIn_of _ (by decide +kernel)) ggX3_begin_X4_facesBegunWith
set_option maxRecDepth 20000 in
theorem ggX3_begin_X0_with : GoodIn wsX3_begin wsX0_with := goodIn_r _ [26] rfl (by decide +kernel)
set_option maxRecDepth 20000 in
theorem gX3_begin_X0_with : GoodIn wsX3_begin (va_wsS RX3 123 yX0_with wsX0_with) := goodIn_app (goodIn_of _ (by decide +kernel)) ggX3_begin_X0_with
set_option maxRecDepth 20000 in
theorem ggX3_begin_X6_superOf : GoodIn wsX3_begin wsX6_superOf := goodIn_r _ [30, 31, 70, 71, 72, 73, 74, 75] rfl (by decide +kernel)
set_option maxRecDepth 20000 in
theorem gX3_begin_X6_superOf : GoodIn wsX3_begin (wsV RX3 167 RX6 yX6_superOf wsX6_superOf) := goodIn_app (goodIn_of _ (by decide +kernel)) ggX3_begin_X6_superOf
set_option maxRecDepth 20000 in
theorem ggX3_begin_X0_has : GoodIn wsX3_begin wsX0_has := goodIn_r _ [34] rfl (by decide +kernel)
set_option maxRecDepth 20000 in
theorem gX3_begin_X0_has : GoodIn wsX3_begin (va_wsS RX3 94 yX0_has wsX0_has) := goodIn_app (goodIn_of _ (by decide +kernel)) ggX3_begin_X0_has
set_option maxRecDepth 20000 in
theorem ggX3_begin_X4_startOf : GoodIn wsX3_begin wsX4_startOf := goodIn_r _ [38, 39, 59, 60, 61, 62, 63, 64, 65, 66, 67, 68, 69] rfl (by decide +kernel)
set_option maxRecDepth 20000 in
theorem gX3_begin_X4_startOf : GoodIn wsX3_begin (wsV RX3 170 RX4 yX4_startOf wsX4_startOf) := goodIn_app (goodIn_of _ (by decide +kernel)) ggX3_begin_X4_startOf
set_option maxRecDepth 20000 in
theorem ggX3_begin_X3_addCallee : GoodIn wsX3_begin wsX3_addCallee := goodIn_r _ [44, 45, 46, 47, 48, 49, 50, 51, 52, 53, 54, 55, 56, 57, 58] rfl (by decide +kernel)
set_option maxRecDepth 20000 in
theorem gX3_begin_X3_addCallee : GoodIn wsX3_begin (wsV RX3 141 RX3 yX3_addCallee wsX3_addCallee) := goodIn_app (goodIn_of _ (by decide +kernel)) ggX3_begin_X3_addCallee
theorem dX3_begin_0 : decode cX3_begin 0 = .ok (.aload_n 0, 1) := by decide +kernel
theorem dX3_begin_1 : decode cX3_begin 1 = .ok (.getfield 31, 3) := by decide +kernel
theorem dX3_begin_4 : decode cX3_begin 4 = .ok (.iload_n 2, 1) := by decide +kernel
theorem dX3_begin_5 : decode cX3_begin 5 = .ok (.invokevirtual 164, 3) := by decide +kernel
theorem dX3_begin_8 : decode cX3_begin 8 = .ok (.lstore_n 3, 1) := by decide +kernel
theorem dX3_begin_9 : decode cX3_begin 9 = .ok (.iload_n 2, 1) := by decide +kernel
theorem dX3_begin_10 : decode cX3_begin 10 = .ok (.istore 5, 2) := by decide +kernel
theorem dX3_begin_12 : decode cX3_begin 12 = .ok (.iconst 0, 1) := by decide +kernel
theorem dX3_begin_13 : decode cX3_begin 13 = .ok (.istore 6, 2) := by decide +kernel
theorem dX3_begin_15 : decode cX3_begin 15 = .ok (.iload 6, 2) := by decide +kernel
theorem dX3_begin_17 : decode cX3_begin 17 = .ok (.bipush 16, 2) := by decide +kernel
theorem dX3_begin_19 : decode cX3_begin 19 = .ok (.if_icmp .ge 33, 3) := by decide +kernel
theorem dX3_begin_22 : decode cX3_begin 22 = .ok (.iload 5, 2) := by decide +kernel
theorem dX3_begin_24 : decode cX3_begin 24 = .ok (.iconst (-1), 1) := by decide +kernel
theorem dX3_begin_25 : decode cX3_begin 25 = .ok (.if_icmp .eq 27, 3) := by decide +kernel
theorem dX3_begin_28 : decode cX3_begin 28 = .ok (.lload_n 3, 1) := by decide +kernel
theorem dX3_begin_29 : decode cX3_begin 29 = .ok (.iload 5, 2) := by decide +kernel
theorem dX3_begin_31 : decode cX3_begin 31 = .ok (.invokestatic 123, 3) := by decide +kernel
theorem dX3_begin_34 : decode cX3_begin 34 = .ok (.lstore_n 3, 1) := by decide +kernel
theorem dX3_begin_35 : decode cX3_begin 35 = .ok (.aload_n 0, 1) := by decide +kernel
theorem dX3_begin_36 : decode cX3_begin 36 = .ok (.getfield 27, 3) := by decide +kernel
theorem dX3_begin_39 : decode cX3_begin 39 = .ok (.iload 5, 2) := by decide +kernel
theorem dX3_begin_41 : decode cX3_begin 41 = .ok (.invokevirtual 167, 3) := by decide +kernel
theorem dX3_begin_44 : decode cX3_begin 44 = .ok (.istore 5, 2) := by decide +kernel
theorem dX3_begin_46 : decode cX3_begin 46 = .ok (.iinc 6 1, 3) := by decide +kernel
theorem dX3_begin_49 : decode cX3_begin 49 = .ok (.goto (-34), 3) := by decide +kernel
theorem dX3_begin_52 : decode cX3_begin 52 = .ok (.aload_n 0, 1) := by decide +kernel
theorem dX3_begin_53 : decode cX3_begin 53 = .ok (.dup, 1) := by decide +kernel
theorem dX3_begin_54 : decode cX3_begin 54 = .ok (.getfield 76, 3) := by decide +kernel
theorem dX3_begin_57 : decode cX3_begin 57 = .ok (.lload_n 3, 1) := by decide +kernel
theorem dX3_begin_58 : decode cX3_begin 58 = .ok (.lor, 1) := by decide +kernel
theorem dX3_begin_59 : decode cX3_begin 59 = .ok (.putfield 76, 3) := by decide +kernel
theorem dX3_begin_62 : decode cX3_begin 62 = .ok (.iconst 0, 1) := by decide +kernel
theorem dX3_begin_63 : decode cX3_begin 63 = .ok (.istore 6, 2) := by decide +kernel
theorem dX3_begin_65 : decode cX3_begin 65 = .ok (.iload 6, 2) := by decide +kernel
theorem dX3_begin_67 : decode cX3_begin 67 = .ok (.iload_n 2, 1) := by decide +kernel
theorem dX3_begin_68 : decode cX3_begin 68 = .ok (.if_icmp .gt 32, 3) := by decide +kernel
theorem dX3_begin_71 : decode cX3_begin 71 = .ok (.lload_n 3, 1) := by decide +kernel
theorem dX3_begin_72 : decode cX3_begin 72 = .ok (.iload 6, 2) := by decide +kernel
theorem dX3_begin_74 : decode cX3_begin 74 = .ok (.invokestatic 94, 3) := by decide +kernel
theorem dX3_begin_77 : decode cX3_begin 77 = .ok (.ifCond .eq 17, 3) := by decide +kernel
theorem dX3_begin_80 : decode cX3_begin 80 = .ok (.aload_n 0, 1) := by decide +kernel
theorem dX3_begin_81 : decode cX3_begin 81 = .ok (.iload_n 1, 1) := by decide +kernel
theorem dX3_begin_82 : decode cX3_begin 82 = .ok (.aload_n 0, 1) := by decide +kernel
theorem dX3_begin_83 : decode cX3_begin 83 = .ok (.getfield 31, 3) := by decide +kernel
theorem dX3_begin_86 : decode cX3_begin 86 = .ok (.iload 6, 2) := by decide +kernel
theorem dX3_begin_88 : decode cX3_begin 88 = .ok (.invokevirtual 170, 3) := by decide +kernel
theorem dX3_begin_91 : decode cX3_begin 91 = .ok (.invokevirtual 141, 3) := by decide +kernel
theorem dX3_begin_94 : decode cX3_begin 94 = .ok (.iinc 6 1, 3) := by decide +kernel
theorem dX3_begin_97 : decode cX3_begin 97 = .ok (.goto (-32), 3) := by decide +kernel
theorem dX3_begin_100 : decode cX3_begin 100 = .ok (.return_, 1) := by decide +kernel
theorem dX3_addCallee_0 : decode cX3_addCallee 0 = .ok (.iload_n 2, 1) := by decide +kernel
theorem dX3_addCallee_1 : decode cX3_addCallee 1 = .ok (.ifCond .lt 15, 3) := by decide +kernel
theorem dX3_addCallee_4 : decode cX3_addCallee 4 = .ok (.aload_n 0, 1) := by decide +kernel
theorem dX3_addCallee_5 : decode cX3_addCallee 5 = .ok (.getfield 15, 3) := by decide +kernel
theorem dX3_addCallee_8 : decode cX3_addCallee 8 = .ok (.iload_n 1, 1) := by decide +kernel
theorem dX3_addCallee_9 : decode cX3_addCallee 9 = .ok (.dup2, 1) := by decide +kernel
theorem dX3_addCallee_10 : decode cX3_addCallee 10 = .ok (.laload, 1) := by decide +kernel
theorem dX3_addCallee_11 : decode cX3_addCallee 11 = .ok (.lconst 1, 1) := by decide +kernel
theorem dX3_addCallee_12 : decode cX3_addCallee 12 = .ok (.iload_n 2, 1) := by decide +kernel
theorem dX3_addCallee_13 : decode cX3_addCallee 13 = .ok (.lshl, 1) := by decide +kernel
theorem dX3_addCallee_14 : decode cX3_addCallee 14 = .ok (.lor, 1) := by decide +kernel
theorem dX3_addCallee_15 : decode cX3_addCallee 15 = .ok (.lastore, 1) := by decide +kernel
theorem dX3_addCallee_16 : decode cX3_addCallee 16 = .ok (.return_, 1) := by decide +kernel
set_option maxRecDepth 20000 in
theorem ggX3_joinCalls_X4_size : GoodIn wsX3_joinCalls wsX4_size := goodIn_r _ [9, 10, 35, 36, 37, 38, 39, 40, 41, 42, 43, 44, 45] rfl (by decide +kernel)
set_option maxRecDepth 20000 in
theorem gX3_joinCalls_X4_size : GoodIn wsX3_joinCalls (wsV RX3 91 RX4 yX4_size wsX4_size) := goodIn_app (goodIn_of _ (by decide +kernel)) ggX3_joinCalls_X4_size
set_option maxRecDepth 20000 in
theorem ggX3_joinCalls_X5_sizeOf : GoodIn wsX3_joinCalls wsX5_sizeOf := goodIn_r _ [15, 16, 46, 47, 48, 49, 50, 51] rfl (by decide +kernel)
set_option maxRecDepth 20000 in
theorem gX3_joinCalls_X5_sizeOf : GoodIn wsX3_joinCalls (wsV RX3 100 RX5 yX5_sizeOf wsX5_sizeOf) := goodIn_app (goodIn_of _ (by decide +kernel)) ggX3_joinCalls_X5_sizeOf
set_option maxRecDepth 20000 in
theorem ggX3_joinCalls_X5_at : GoodIn wsX3_joinCalls wsX5_at := goodIn_r _ [20, 21, 46, 47, 48, 49, 50, 51] rfl (by decide +kernel)
set_option maxRecDepth 20000 in
theorem gX3_joinCalls_X5_at : GoodIn wsX3_joinCalls (wsV RX3 106 RX5 yX5_at wsX5_at) := goodIn_app (goodIn_of _ (by decide +kernel)) ggX3_joinCalls_X5_at
theorem dX3_joinCalls_0 : decode cX3_joinCalls 0 = .ok (.iconst 0, 1) := by decide +kernel
theorem dX3_joinCalls_1 : decode cX3_joinCalls 1 = .ok (.istore_n 1, 1) := by decide +kernel
theorem dX3_joinCalls_2 : decode cX3_joinCalls 2 = .ok (.iload_n 1, 1) := by decide +kernel
theorem dX3_joinCalls_3 : decode cX3_joinCalls 3 = .ok (.aload_n 0, 1) := by decide +kernel
theorem dX3_joinCalls_4 : decode cX3_joinCalls 4 = .ok (.getfield 31, 3) := by decide +kernel
theorem dX3_joinCalls_7 : decode cX3_joinCalls 7 = .ok (.invokevirtual 91, 3) := by decide +kernel
theorem dX3_joinCalls_10 : decode cX3_joinCalls 10 = .ok (.if_icmp .ge 52, 3) := by decide +kernel
theorem dX3_joinCalls_13 : decode cX3_joinCalls 13 = .ok (.iconst 0, 1) := by decide +kernel
theorem dX3_joinCalls_14 : decode cX3_joinCalls 14 = .ok (.istore_n 2, 1) := by decide +kernel
theorem dX3_joinCalls_15 : decode cX3_joinCalls 15 = .ok (.iload_n 2, 1) := by decide +kernel
theorem dX3_joinCalls_16 : decode cX3_joinCalls 16 = .ok (.aload_n 0, 1) := by decide +kernel
theorem dX3_joinCalls_17 : decode cX3_joinCalls 17 = .ok (.getfield 39, 3) := by decide +kernel
theorem dX3_joinCalls_20 : decode cX3_joinCalls 20 = .ok (.iload_n 1, 1) := by decide +kernel
theorem dX3_joinCalls_21 : decode cX3_joinCalls 21 = .ok (.invokevirtual 100, 3) := by decide +kernel
theorem dX3_joinCalls_24 : decode cX3_joinCalls 24 = .ok (.if_icmp .ge 32, 3) := by decide +kernel
theorem dX3_joinCalls_27 : decode cX3_joinCalls 27 = .ok (.aload_n 0, 1) := by decide +kernel
theorem dX3_joinCalls_28 : decode cX3_joinCalls 28 = .ok (.getfield 18, 3) := by decide +kernel
theorem dX3_joinCalls_31 : decode cX3_joinCalls 31 = .ok (.iload_n 1, 1) := by decide +kernel
theorem dX3_joinCalls_32 : decode cX3_joinCalls 32 = .ok (.dup2, 1) := by decide +kernel
theorem dX3_joinCalls_33 : decode cX3_joinCalls 33 = .ok (.laload, 1) := by decide +kernel
theorem dX3_joinCalls_34 : decode cX3_joinCalls 34 = .ok (.aload_n 0, 1) := by decide +kernel
theorem dX3_joinCalls_35 : decode cX3_joinCalls 35 = .ok (.getfield 15, 3) := by decide +kernel
theorem dX3_joinCalls_38 : decode cX3_joinCalls 38 = .ok (.aload_n 0, 1) := by decide +kernel
theorem dX3_joinCalls_39 : decode cX3_joinCalls 39 = .ok (.getfield 39, 3) := by decide +kernel
theorem dX3_joinCalls_42 : decode cX3_joinCalls 42 = .ok (.iload_n 1, 1) := by decide +kernel
theorem dX3_joinCalls_43 : decode cX3_joinCalls 43 = .ok (.iload_n 2, 1) := by decide +kernel
theorem dX3_joinCalls_44 : decode cX3_joinCalls 44 = .ok (.invokevirtual 106, 3) := by decide +kernel
theorem dX3_joinCalls_47 : decode cX3_joinCalls 47 = .ok (.laload, 1) := by decide +kernel
theorem dX3_joinCalls_48 : decode cX3_joinCalls 48 = .ok (.lor, 1) := by decide +kernel
theorem dX3_joinCalls_49 : decode cX3_joinCalls 49 = .ok (.lastore, 1) := by decide +kernel
theorem dX3_joinCalls_50 : decode cX3_joinCalls 50 = .ok (.iinc 2 1, 3) := by decide +kernel
theorem dX3_joinCalls_53 : decode cX3_joinCalls 53 = .ok (.goto (-38), 3) := by decide +kernel
theorem dX3_joinCalls_56 : decode cX3_joinCalls 56 = .ok (.iinc 1 1, 3) := by decide +kernel
theorem dX3_joinCalls_59 : decode cX3_joinCalls 59 = .ok (.goto (-57), 3) := by decide +kernel
theorem dX3_joinCalls_62 : decode cX3_joinCalls 62 = .ok (.return_, 1) := by decide +kernel
set_option maxRecDepth 20000 in
theorem ggX3_closeCalls_X4_size : GoodIn wsX3_closeCalls wsX4_size := goodIn_r _ [12, 13, 31, 32, 33, 34, 35, 36, 37, 38, 39, 40, 41] rfl (by decide +kernel)
set_option maxRecDepth 20000 in
theorem gX3_closeCalls_X4_size : GoodIn wsX3_closeCalls (wsV RX3 91 RX4 yX4_size wsX4_size) := goodIn_app (goodIn_of _ (by decide +kernel)) ggX3_closeCalls_X4_size
set_option maxRecDepth 20000 in
theorem ggX3_closeCalls_X0_has : GoodIn wsX3_closeCalls wsX0_has := goodIn_r _ [17] rfl (by decide +kernel)
set_option maxRecDepth 20000 in
theorem gX3_closeCalls_X0_has : GoodIn wsX3_closeCalls (va_wsS RX3 94 yX0_has wsX0_has) := goodIn_app (goodIn_of _ (by decide +kernel)) ggX3_closeCalls_X0_has
theorem dX3_closeCalls_0 : decode cX3_closeCalls 0 = .ok (.aload_n 0, 1) := by decide +kernel
theorem dX3_closeCalls_1 : decode cX3_closeCalls 1 = .ok (.getfield 18, 3) := by decide +kernel
theorem dX3_closeCalls_4 : decode cX3_closeCalls 4 = .ok (.iconst 0, 1) := by decide +kernel
theorem dX3_closeCalls_5 : decode cX3_closeCalls 5 = .ok (.aload_n 0, 1) := by decide +kernel
theorem dX3_closeCalls_6 : decode cX3_closeCalls 6 = .ok (.getfield 21, 3) := by decide +kernel
theorem dX3_closeCalls_9 : decode cX3_closeCalls 9 = .ok (.iconst 0, 1) := by decide +kernel
theorem dX3_closeCalls_10 : decode cX3_closeCalls 10 = .ok (.bipush 48, 2) := by decide +kernel
theorem dX3_closeCalls_12 : decode cX3_closeCalls 12 = .ok (.invokestatic 173, 3) := by decide +kernel
theorem dX3_closeCalls_15 : decode cX3_closeCalls 15 = .ok (.iconst 0, 1) := by decide +kernel
theorem dX3_closeCalls_16 : decode cX3_closeCalls 16 = .ok (.istore_n 1, 1) := by decide +kernel
theorem dX3_closeCalls_17 : decode cX3_closeCalls 17 = .ok (.iload_n 1, 1) := by decide +kernel
theorem dX3_closeCalls_18 : decode cX3_closeCalls 18 = .ok (.aload_n 0, 1) := by decide +kernel
theorem dX3_closeCalls_19 : decode cX3_closeCalls 19 = .ok (.getfield 31, 3) := by decide +kernel
theorem dX3_closeCalls_22 : decode cX3_closeCalls 22 = .ok (.invokevirtual 91, 3) := by decide +kernel
theorem dX3_closeCalls_25 : decode cX3_closeCalls 25 = .ok (.if_icmp .ge 56, 3) := by decide +kernel
theorem dX3_closeCalls_28 : decode cX3_closeCalls 28 = .ok (.iconst 0, 1) := by decide +kernel
theorem dX3_closeCalls_29 : decode cX3_closeCalls 29 = .ok (.istore_n 2, 1) := by decide +kernel
theorem dX3_closeCalls_30 : decode cX3_closeCalls 30 = .ok (.iload_n 2, 1) := by decide +kernel
theorem dX3_closeCalls_31 : decode cX3_closeCalls 31 = .ok (.aload_n 0, 1) := by decide +kernel
theorem dX3_closeCalls_32 : decode cX3_closeCalls 32 = .ok (.getfield 31, 3) := by decide +kernel
theorem dX3_closeCalls_35 : decode cX3_closeCalls 35 = .ok (.invokevirtual 91, 3) := by decide +kernel
theorem dX3_closeCalls_38 : decode cX3_closeCalls 38 = .ok (.if_icmp .ge 37, 3) := by decide +kernel
theorem dX3_closeCalls_41 : decode cX3_closeCalls 41 = .ok (.aload_n 0, 1) := by decide +kernel
theorem dX3_closeCalls_42 : decode cX3_closeCalls 42 = .ok (.getfield 21, 3) := by decide +kernel
theorem dX3_closeCalls_45 : decode cX3_closeCalls 45 = .ok (.iload_n 2, 1) := by decide +kernel
theorem dX3_closeCalls_46 : decode cX3_closeCalls 46 = .ok (.laload, 1) := by decide +kernel
theorem dX3_closeCalls_47 : decode cX3_closeCalls 47 = .ok (.iload_n 1, 1) := by decide +kernel
theorem dX3_closeCalls_48 : decode cX3_closeCalls 48 = .ok (.invokestatic 94, 3) := by decide +kernel
theorem dX3_closeCalls_51 : decode cX3_closeCalls 51 = .ok (.ifCond .eq 18, 3) := by decide +kernel
theorem dX3_closeCalls_54 : decode cX3_closeCalls 54 = .ok (.aload_n 0, 1) := by decide +kernel
theorem dX3_closeCalls_55 : decode cX3_closeCalls 55 = .ok (.getfield 21, 3) := by decide +kernel
theorem dX3_closeCalls_58 : decode cX3_closeCalls 58 = .ok (.iload_n 2, 1) := by decide +kernel
theorem dX3_closeCalls_59 : decode cX3_closeCalls 59 = .ok (.dup2, 1) := by decide +kernel
theorem dX3_closeCalls_60 : decode cX3_closeCalls 60 = .ok (.laload, 1) := by decide +kernel
theorem dX3_closeCalls_61 : decode cX3_closeCalls 61 = .ok (.aload_n 0, 1) := by decide +kernel
theorem dX3_closeCalls_62 : decode cX3_closeCalls 62 = .ok (.getfield 21, 3) := by decide +kernel
theorem dX3_closeCalls_65 : decode cX3_closeCalls 65 = .ok (.iload_n 1, 1) := by decide +kernel
theorem dX3_closeCalls_66 : decode cX3_closeCalls 66 = .ok (.laload, 1) := by decide +kernel
theorem dX3_closeCalls_67 : decode cX3_closeCalls 67 = .ok (.lor, 1) := by decide +kernel
theorem dX3_closeCalls_68 : decode cX3_closeCalls 68 = .ok (.lastore, 1) := by decide +kernel
theorem dX3_closeCalls_69 : decode cX3_closeCalls 69 = .ok (.iinc 2 1, 3) := by decide +kernel
theorem dX3_closeCalls_72 : decode cX3_closeCalls 72 = .ok (.goto (-42), 3) := by decide +kernel
theorem dX3_closeCalls_75 : decode cX3_closeCalls 75 = .ok (.iinc 1 1, 3) := by decide +kernel
theorem dX3_closeCalls_78 : decode cX3_closeCalls 78 = .ok (.goto (-61), 3) := by decide +kernel
theorem dX3_closeCalls_81 : decode cX3_closeCalls 81 = .ok (.return_, 1) := by decide +kernel
theorem dX3_reached_0 : decode cX3_reached 0 = .ok (.aload_n 0, 1) := by decide +kernel
theorem dX3_reached_1 : decode cX3_reached 1 = .ok (.getfield 69, 3) := by decide +kernel
theorem dX3_reached_4 : decode cX3_reached 4 = .ok (.lreturn, 1) := by decide +kernel
theorem dX3_madeClasses_0 : decode cX3_madeClasses 0 = .ok (.aload_n 0, 1) := by decide +kernel
theorem dX3_madeClasses_1 : decode cX3_madeClasses 1 = .ok (.getfield 73, 3) := by decide +kernel
theorem dX3_madeClasses_4 : decode cX3_madeClasses 4 = .ok (.lreturn, 1) := by decide +kernel
theorem dX3_begunTypes_0 : decode cX3_begunTypes 0 = .ok (.aload_n 0, 1) := by decide +kernel
theorem dX3_begunTypes_1 : decode cX3_begunTypes 1 = .ok (.getfield 76, 3) := by decide +kernel
theorem dX3_begunTypes_4 : decode cX3_begunTypes 4 = .ok (.lreturn, 1) := by decide +kernel
theorem dX3_calleesOf_0 : decode cX3_calleesOf 0 = .ok (.aload_n 0, 1) := by decide +kernel
theorem dX3_calleesOf_1 : decode cX3_calleesOf 1 = .ok (.getfield 15, 3) := by decide +kernel
theorem dX3_calleesOf_4 : decode cX3_calleesOf 4 = .ok (.iload_n 1, 1) := by decide +kernel
theorem dX3_calleesOf_5 : decode cX3_calleesOf 5 = .ok (.laload, 1) := by decide +kernel
theorem dX3_calleesOf_6 : decode cX3_calleesOf 6 = .ok (.lreturn, 1) := by decide +kernel
set_option maxRecDepth 20000 in
theorem ggX3_callersOf_X3_callersOfAny : GoodIn wsX3_callersOf wsX3_callersOfAny := goodIn_r _ [5, 6, 7, 8, 9, 10, 11, 12, 13, 14, 15, 16, 17, 18, 19, 20, 21, 22, 23, 24, 25, 26, 27, 28, 29, 30, 31, 32, 33, 34, 35, 36, 37, 38, 39, 40, 41] rfl (by decide +kernel)
set_option maxRecDepth 20000 in
theorem gX3_callersOf_X3_callersOfAny : GoodIn wsX3_callersOf (wsV RX3 179 RX3 yX3_callersOfAny wsX3_callersOfAny) := goodIn_app (goodIn_of _ (by decide +kernel)) ggX3_callersOf_X3_callersOfAny
theorem dX3_callersOf_0 : decode cX3_callersOf 0 = .ok (.aload_n 0, 1) := by decide +kernel
theorem dX3_callersOf_1 : decode cX3_callersOf 1 = .ok (.lconst 1, 1) := by decide +kernel
theorem dX3_callersOf_2 : decode cX3_callersOf 2 = .ok (.iload_n 1, 1) := by decide +kernel
theorem dX3_callersOf_3 : decode cX3_callersOf 3 = .ok (.lshl, 1) := by decide +kernel
theorem dX3_callersOf_4 : decode cX3_callersOf 4 = .ok (.invokevirtual 179, 3) := by decide +kernel
theorem dX3_callersOf_7 : decode cX3_callersOf 7 = .ok (.lreturn, 1) := by decide +kernel
set_option maxRecDepth 20000 in
theorem ggX3_callersOfAny_X4_size : GoodIn wsX3_callersOfAny wsX4_size := goodIn_r _ [7, 8, 26, 27, 28, 29, 30, 31, 32, 33, 34, 35, 36] rfl (by decide +kernel)
set_option maxRecDepth 20000 in
theorem gX3_callersOfAny_X4_size : GoodIn wsX3_callersOfAny (wsV RX3 91 RX4 yX4_size wsX4_size) := goodIn_app (goodIn_of _ (by decide +kernel)) ggX3_callersOfAny_X4_size
set_option maxRecDepth 20000 in
theorem ggX3_callersOfAny_X0_with : GoodIn wsX3_callersOfAny wsX0_with := goodIn_r _ [12] rfl (by decide +kernel)
set_option maxRecDepth 20000 in
theorem gX3_callersOfAny_X0_with : GoodIn wsX3_callersOfAny (va_wsS RX3 123 yX0_with wsX0_with) := goodIn_app (goodIn_of _ (by decide +kernel)) ggX3_callersOfAny_X0_with
theorem dX3_callersOfAny_0 : decode cX3_callersOfAny 0 = .ok (.lconst 0, 1) := by decide +kernel
theorem dX3_callersOfAny_1 : decode cX3_callersOfAny 1 = .ok (.lstore_n 3, 1) := by decide +kernel
theorem dX3_callersOfAny_2 : decode cX3_callersOfAny 2 = .ok (.iconst 0, 1) := by decide +kernel
theorem dX3_callersOfAny_3 : decode cX3_callersOfAny 3 = .ok (.istore 5, 2) := by decide +kernel
theorem dX3_callersOfAny_5 : decode cX3_callersOfAny 5 = .ok (.iload 5, 2) := by decide +kernel
theorem dX3_callersOfAny_7 : decode cX3_callersOfAny 7 = .ok (.aload_n 0, 1) := by decide +kernel
theorem dX3_callersOfAny_8 : decode cX3_callersOfAny 8 = .ok (.getfield 31, 3) := by decide +kernel
theorem dX3_callersOfAny_11 : decode cX3_callersOfAny 11 = .ok (.invokevirtual 91, 3) := by decide +kernel
theorem dX3_callersOfAny_14 : decode cX3_callersOfAny 14 = .ok (.if_icmp .ge 30, 3) := by decide +kernel
theorem dX3_callersOfAny_17 : decode cX3_callersOfAny 17 = .ok (.aload_n 0, 1) := by decide +kernel
theorem dX3_callersOfAny_18 : decode cX3_callersOfAny 18 = .ok (.getfield 18, 3) := by decide +kernel
theorem dX3_callersOfAny_21 : decode cX3_callersOfAny 21 = .ok (.iload 5, 2) := by decide +kernel
theorem dX3_callersOfAny_23 : decode cX3_callersOfAny 23 = .ok (.laload, 1) := by decide +kernel
theorem dX3_callersOfAny_24 : decode cX3_callersOfAny 24 = .ok (.lload_n 1, 1) := by decide +kernel
theorem dX3_callersOfAny_25 : decode cX3_callersOfAny 25 = .ok (.land, 1) := by decide +kernel
theorem dX3_callersOfAny_26 : decode cX3_callersOfAny 26 = .ok (.lconst 0, 1) := by decide +kernel
theorem dX3_callersOfAny_27 : decode cX3_callersOfAny 27 = .ok (.lcmp, 1) := by decide +kernel
theorem dX3_callersOfAny_28 : decode cX3_callersOfAny 28 = .ok (.ifCond .eq 10, 3) := by decide +kernel
theorem dX3_callersOfAny_31 : decode cX3_callersOfAny 31 = .ok (.lload_n 3, 1) := by decide +kernel
theorem dX3_callersOfAny_32 : decode cX3_callersOfAny 32 = .ok (.iload 5, 2) := by decide +kernel
theorem dX3_callersOfAny_34 : decode cX3_callersOfAny 34 = .ok (.invokestatic 123, 3) := by decide +kernel
theorem dX3_callersOfAny_37 : decode cX3_callersOfAny 37 = .ok (.lstore_n 3, 1) := by decide +kernel
theorem dX3_callersOfAny_38 : decode cX3_callersOfAny 38 = .ok (.iinc 5 1, 3) := by decide +kernel
theorem dX3_callersOfAny_41 : decode cX3_callersOfAny 41 = .ok (.goto (-36), 3) := by decide +kernel
theorem dX3_callersOfAny_44 : decode cX3_callersOfAny 44 = .ok (.lload_n 3, 1) := by decide +kernel
theorem dX3_callersOfAny_45 : decode cX3_callersOfAny 45 = .ok (.lreturn, 1) := by decide +kernel
set_option maxRecDepth 20000 in
theorem ggX3_isRecursive_X0_has : GoodIn wsX3_isRecursive wsX0_has := goodIn_r _ [5] rfl (by decide +kernel)
set_option maxRecDepth 20000 in
theorem gX3_isRecursive_X0_has : GoodIn wsX3_isRecursive (va_wsS RX3 94 yX0_has wsX0_has) := goodIn_app (goodIn_of _ (by decide +kernel)) ggX3_isRecursive_X0_has
theorem dX3_isRecursive_0 : decode cX3_isRecursive 0 = .ok (.aload_n 0, 1) := by decide +kernel
theorem dX3_isRecursive_1 : decode cX3_isRecursive 1 = .ok (.getfield 21, 3) := by decide +kernel
theorem dX3_isRecursive_4 : decode cX3_isRecursive 4 = .ok (.iload_n 1, 1) := by decide +kernel
theorem dX3_isRecursive_5 : decode cX3_isRecursive 5 = .ok (.laload, 1) := by decide +kernel
theorem dX3_isRecursive_6 : decode cX3_isRecursive 6 = .ok (.iload_n 1, 1) := by decide +kernel
theorem dX3_isRecursive_7 : decode cX3_isRecursive 7 = .ok (.invokestatic 94, 3) := by decide +kernel
theorem dX3_isRecursive_10 : decode cX3_isRecursive 10 = .ok (.ireturn, 1) := by decide +kernel
set_option maxRecDepth 20000 in
theorem ggX3_ringOf_X4_size : GoodIn wsX3_ringOf wsX4_size := goodIn_r _ [7, 8, 29, 30, 31, 32, 33, 34, 35, 36, 37, 38, 39] rfl (by decide +kernel)
set_option maxRecDepth 20000 in
theorem gX3_ringOf_X4_size : GoodIn wsX3_ringOf (wsV RX3 91 RX4 yX4_size wsX4_size) := goodIn_app (goodIn_of _ (by decide +kernel)) ggX3_ringOf_X4_size
set_option maxRecDepth 20000 in
theorem ggX3_ringOf_X0_has : GoodIn wsX3_ringOf wsX0_has := goodIn_r _ [12] rfl (by decide +kernel)
set_option maxRecDepth 20000 in
theorem gX3_ringOf_X0_has : GoodIn wsX3_ringOf (va_wsS RX3 94 yX0_has wsX0_has) := goodIn_app (goodIn_of _ (by decide +kernel)) ggX3_ringOf_X0_has
set_option maxRecDepth 20000 in
theorem ggX3_ringOf_X0_with : GoodIn wsX3_ringOf wsX0_with := goodIn_r _ [15] rfl (by decide +kernel)
set_option maxRecDepth 20000 in
theorem gX3_ringOf_X0_with : GoodIn wsX3_ringOf (va_wsS RX3 123 yX0_with wsX0_with) := goodIn_app (goodIn_of _ (by decide +kernel)) ggX3_ringOf_X0_with
theorem dX3_ringOf_0 : decode cX3_ringOf 0 = .ok (.lconst 0, 1) := by decide +kernel
theorem dX3_ringOf_1 : decode cX3_ringOf 1 = .ok (.lstore_n 2, 1) := by decide +kernel
theorem dX3_ringOf_2 : decode cX3_ringOf 2 = .ok (.iconst 0, 1) := by decide +kernel
theorem dX3_ringOf_3 : decode cX3_ringOf 3 = .ok (.istore 4, 2) := by decide +kernel
theorem dX3_ringOf_5 : decode cX3_ringOf 5 = .ok (.iload 4, 2) := by decide +kernel
theorem dX3_ringOf_7 : decode cX3_ringOf 7 = .ok (.aload_n 0, 1) := by decide +kernel
theorem dX3_ringOf_8 : decode cX3_ringOf 8 = .ok (.getfield 31, 3) := by decide +kernel
theorem dX3_ringOf_11 : decode cX3_ringOf 11 = .ok (.invokevirtual 91, 3) := by decide +kernel
theorem dX3_ringOf_14 : decode cX3_ringOf 14 = .ok (.if_icmp .ge 44, 3) := by decide +kernel
theorem dX3_ringOf_17 : decode cX3_ringOf 17 = .ok (.aload_n 0, 1) := by decide +kernel
theorem dX3_ringOf_18 : decode cX3_ringOf 18 = .ok (.getfield 21, 3) := by decide +kernel
theorem dX3_ringOf_21 : decode cX3_ringOf 21 = .ok (.iload_n 1, 1) := by decide +kernel
theorem dX3_ringOf_22 : decode cX3_ringOf 22 = .ok (.laload, 1) := by decide +kernel
theorem dX3_ringOf_23 : decode cX3_ringOf 23 = .ok (.iload 4, 2) := by decide +kernel
theorem dX3_ringOf_25 : decode cX3_ringOf 25 = .ok (.invokestatic 94, 3) := by decide +kernel
theorem dX3_ringOf_28 : decode cX3_ringOf 28 = .ok (.ifCond .eq 24, 3) := by decide +kernel
theorem dX3_ringOf_31 : decode cX3_ringOf 31 = .ok (.aload_n 0, 1) := by decide +kernel
theorem dX3_ringOf_32 : decode cX3_ringOf 32 = .ok (.getfield 21, 3) := by decide +kernel
theorem dX3_ringOf_35 : decode cX3_ringOf 35 = .ok (.iload 4, 2) := by decide +kernel
theorem dX3_ringOf_37 : decode cX3_ringOf 37 = .ok (.laload, 1) := by decide +kernel
theorem dX3_ringOf_38 : decode cX3_ringOf 38 = .ok (.iload_n 1, 1) := by decide +kernel
theorem dX3_ringOf_39 : decode cX3_ringOf 39 = .ok (.invokestatic 94, 3) := by decide +kernel
theorem dX3_ringOf_42 : decode cX3_ringOf 42 = .ok (.ifCond .eq 10, 3) := by decide +kernel
theorem dX3_ringOf_45 : decode cX3_ringOf 45 = .ok (.lload_n 2, 1) := by decide +kernel
theorem dX3_ringOf_46 : decode cX3_ringOf 46 = .ok (.iload 4, 2) := by decide +kernel
theorem dX3_ringOf_48 : decode cX3_ringOf 48 = .ok (.invokestatic 123, 3) := by decide +kernel
theorem dX3_ringOf_51 : decode cX3_ringOf 51 = .ok (.lstore_n 2, 1) := by decide +kernel
theorem dX3_ringOf_52 : decode cX3_ringOf 52 = .ok (.iinc 4 1, 3) := by decide +kernel
theorem dX3_ringOf_55 : decode cX3_ringOf 55 = .ok (.goto (-50), 3) := by decide +kernel
theorem dX3_ringOf_58 : decode cX3_ringOf 58 = .ok (.lload_n 2, 1) := by decide +kernel
theorem dX3_ringOf_59 : decode cX3_ringOf 59 = .ok (.lreturn, 1) := by decide +kernel
set_option maxRecDepth 20000 in
theorem ggX3_countRecursive_X4_size : GoodIn wsX3_countRecursive wsX4_size := goodIn_r _ [6, 7, 31, 32, 33, 34, 35, 36, 37, 38, 39, 40, 41] rfl (by decide +kernel)
set_option maxRecDepth 20000 in
theorem gX3_countRecursive_X4_size : GoodIn wsX3_countRecursive (wsV RX3 91 RX4 yX4_size wsX4_size) := goodIn_app (goodIn_of _ (by decide +kernel)) ggX3_countRecursive_X4_size
set_option maxRecDepth 20000 in
theorem ggX3_countRecursive_X3_isRecursive : GoodIn wsX3_countRecursive wsX3_isRecursive := goodIn_r _ [12, 13, 14, 15, 16, 17, 18, 19, 20, 21, 22, 23, 24, 25, 26, 27, 28, 29, 30] rfl (by decide +kernel)
set_option maxRecDepth 20000 in
theorem gX3_countRecursive_X3_isRecursive : GoodIn wsX3_countRecursive (wsV RX3 183 RX3 yX3_isRecursive wsX3_isRecursive) := goodIn_app (goodIn_of _ (by decide +kernel)) ggX3_countRecursive_X3_isRecursive
theorem dX3_countRecursive_0 : decode cX3_countRecursive 0 = .ok (.iconst 0, 1) := by decide +kernel
theorem dX3_countRecursive_1 : decode cX3_countRecursive 1 = .ok (.istore_n 1, 1) := by decide +kernel
theorem dX3_countRecursive_2 : decode cX3_countRecursive 2 = .ok (.iconst 0, 1) := by decide +kernel
theorem dX3_countRecursive_3 : decode cX3_countRecursive 3 = .ok (.istore_n 2, 1) := by decide +kernel
theorem dX3_countRecursive_4 : decode cX3_countRecursive 4 = .ok (.iload_n 2, 1) := by decide +kernel
theorem dX3_countRecursive_5 : decode cX3_countRecursive 5 = .ok (.aload_n 0, 1) := by decide +kernel
theorem dX3_countRecursive_6 : decode cX3_countRecursive 6 = .ok (.getfield 31, 3) := by decide +kernel
theorem dX3_countRecursive_9 : decode cX3_countRecursive 9 = .ok (.invokevirtual 91, 3) := by decide +kernel
theorem dX3_countRecursive_12 : decode cX3_countRecursive 12 = .ok (.if_icmp .ge 20, 3) := by decide +kernel
theorem dX3_countRecursive_15 : decode cX3_countRecursive 15 = .ok (.aload_n 0, 1) := by decide +kernel
theorem dX3_countRecursive_16 : decode cX3_countRecursive 16 = .ok (.iload_n 2, 1) := by decide +kernel
theorem dX3_countRecursive_17 : decode cX3_countRecursive 17 = .ok (.invokevirtual 183, 3) := by decide +kernel
theorem dX3_countRecursive_20 : decode cX3_countRecursive 20 = .ok (.ifCond .eq 6, 3) := by decide +kernel
theorem dX3_countRecursive_23 : decode cX3_countRecursive 23 = .ok (.iinc 1 1, 3) := by decide +kernel
theorem dX3_countRecursive_26 : decode cX3_countRecursive 26 = .ok (.iinc 2 1, 3) := by decide +kernel
theorem dX3_countRecursive_29 : decode cX3_countRecursive 29 = .ok (.goto (-25), 3) := by decide +kernel
theorem dX3_countRecursive_32 : decode cX3_countRecursive 32 = .ok (.iload_n 1, 1) := by decide +kernel
theorem dX3_countRecursive_33 : decode cX3_countRecursive 33 = .ok (.ireturn, 1) := by decide +kernel
set_option maxRecDepth 20000 in
theorem ggX3_countPairs_X5_size : GoodIn wsX3_countPairs wsX5_size := goodIn_r _ [7, 8, 29, 30, 31, 32, 33, 34] rfl (by decide +kernel)
set_option maxRecDepth 20000 in
theorem gX3_countPairs_X5_size : GoodIn wsX3_countPairs (wsV RX3 187 RX5 yX5_size wsX5_size) := goodIn_app (goodIn_of _ (by decide +kernel)) ggX3_countPairs_X5_size
set_option maxRecDepth 20000 in
theorem ggX3_countPairs_J13_bitCount_95d88 : GoodIn wsX3_countPairs wsJ13_bitCount_95d88 := goodIn_r _ [12, 13, 14, 15] rfl (by decide +kernel)
set_option maxRecDepth 20000 in
theorem gX3_countPairs_J13_bitCount_95d88 : GoodIn wsX3_countPairs (va_wsS RX3 85 yJ13_bitCount_95d88 wsJ13_bitCount_95d88) := goodIn_app (goodIn_of _ (by decide +kernel)) ggX3_countPairs_J13_bitCount_95d88
theorem dX3_countPairs_0 : decode cX3_countPairs 0 = .ok (.iconst 0, 1) := by decide +kernel
theorem dX3_countPairs_1 : decode cX3_countPairs 1 = .ok (.istore_n 1, 1) := by decide +kernel
theorem dX3_countPairs_2 : decode cX3_countPairs 2 = .ok (.iconst 0, 1) := by decide +kernel
theorem dX3_countPairs_3 : decode cX3_countPairs 3 = .ok (.istore_n 2, 1) := by decide +kernel
theorem dX3_countPairs_4 : decode cX3_countPairs 4 = .ok (.iload_n 2, 1) := by decide +kernel
theorem dX3_countPairs_5 : decode cX3_countPairs 5 = .ok (.aload_n 0, 1) := by decide +kernel
theorem dX3_countPairs_6 : decode cX3_countPairs 6 = .ok (.getfield 39, 3) := by decide +kernel
theorem dX3_countPairs_9 : decode cX3_countPairs 9 = .ok (.invokevirtual 187, 3) := by decide +kernel
theorem dX3_countPairs_12 : decode cX3_countPairs 12 = .ok (.if_icmp .ge 21, 3) := by decide +kernel
theorem dX3_countPairs_15 : decode cX3_countPairs 15 = .ok (.iload_n 1, 1) := by decide +kernel
theorem dX3_countPairs_16 : decode cX3_countPairs 16 = .ok (.aload_n 0, 1) := by decide +kernel
theorem dX3_countPairs_17 : decode cX3_countPairs 17 = .ok (.getfield 15, 3) := by decide +kernel
theorem dX3_countPairs_20 : decode cX3_countPairs 20 = .ok (.iload_n 2, 1) := by decide +kernel
theorem dX3_countPairs_21 : decode cX3_countPairs 21 = .ok (.laload, 1) := by decide +kernel
theorem dX3_countPairs_22 : decode cX3_countPairs 22 = .ok (.invokestatic 85, 3) := by decide +kernel
theorem dX3_countPairs_25 : decode cX3_countPairs 25 = .ok (.iadd, 1) := by decide +kernel
theorem dX3_countPairs_26 : decode cX3_countPairs 26 = .ok (.istore_n 1, 1) := by decide +kernel
theorem dX3_countPairs_27 : decode cX3_countPairs 27 = .ok (.iinc 2 1, 3) := by decide +kernel
theorem dX3_countPairs_30 : decode cX3_countPairs 30 = .ok (.goto (-26), 3) := by decide +kernel
theorem dX3_countPairs_33 : decode cX3_countPairs 33 = .ok (.iload_n 1, 1) := by decide +kernel
theorem dX3_countPairs_34 : decode cX3_countPairs 34 = .ok (.ireturn, 1) := by decide +kernel
set_option maxRecDepth 20000 in
theorem ggX3_countFaults_X4_size : GoodIn wsX3_countFaults wsX4_size := goodIn_r _ [8, 9, 102, 103, 104, 105, 106, 107, 108, 109, 110, 111, 112] rfl (by decide +kernel)
set_option maxRecDepth 20000 in
theorem gX3_countFaults_X4_size : GoodIn wsX3_countFaults (wsV RX3 91 RX4 yX4_size wsX4_size) := goodIn_app (goodIn_of _ (by decide +kernel)) ggX3_countFaults_X4_size
set_option maxRecDepth 20000 in
theorem ggX3_countFaults_X0_has : GoodIn wsX3_countFaults wsX0_has := goodIn_r _ [13] rfl (by decide +kernel)
set_option maxRecDepth 20000 in
theorem gX3_countFaults_X0_has : GoodIn wsX3_countFaults (va_wsS RX3 94 yX0_has wsX0_has) := goodIn_app (goodIn_of _ (by decide +kernel)) ggX3_countFaults_X0_has
set_option maxRecDepth 20000 in
theorem ggX3_countFaults_X5_sizeOf : GoodIn wsX3_countFaults wsX5_sizeOf := goodIn_r _ [18, 19, 113, 114, 115, 116, 117, 118] rfl (by decide +kernel)
set_option maxRecDepth 20000 in
theorem gX3_countFaults_X5_sizeOf : GoodIn wsX3_countFaults (wsV RX3 100 RX5 yX5_sizeOf wsX5_sizeOf) := goodIn_app (goodIn_of _ (by decide +kernel)) ggX3_countFaults_X5_sizeOf
set_option maxRecDepth 20000 in
theorem ggX3_countFaults_X5_at : GoodIn wsX3_countFaults wsX5_at := goodIn_r _ [23, 24, 113, 114, 115, 116, 117, 118] rfl (by decide +kernel)
set_option maxRecDepth 20000 in
theorem gX3_countFaults_X5_at : GoodIn wsX3_countFaults (wsV RX3 106 RX5 yX5_at wsX5_at) := goodIn_app (goodIn_of _ (by decide +kernel)) ggX3_countFaults_X5_at
set_option maxRecDepth 20000 in
theorem ggX3_countFaults_X3_allFaultsOf : GoodIn wsX3_countFaults wsX3_allFaultsOf := goodIn_r _ [29, 30, 31, 32, 28, 33, 3, 34, 35, 36, 37, 17, 38, 39, 40, 41, 42, 43, 44, 45, 46, 47, 48, 49, 50, 51, 52, 53, 54, 55, 56, 57, 58, 59, 60, 61, 62, 63, 64, 65, 10, 11, 12, 13, 66, 67, 68, 69, 70, 71, 72, 73, 74, 75, 76, 77, 78, 79, 80, 81, 82, 7, 83, 84, 85, 86, 87, 88, 89, 90, 91, 92, 93, 94, 95, 96, 97, 98, 99, 100, 101, 113, 114, 115, 116, 117, 118, 119, 120, 121, 122, 123, 124, 125, 126, 127, 128, 102, 103, 104, 105, 106, 107, 108, 109, 110, 111, 112] rfl (by decide +kernel)
set_option maxRecDepth 20000 in
theorem gX3_countFaults_X3_allFaultsOf : GoodIn wsX3_countFaults (wsV RX3 188 RX3 yX3_allFaultsOf wsX3_allFaultsOf) := goodIn_app (goodIn_of _ (by decide +kernel)) ggX3_countFaults_X3_allFaultsOf
theorem dX3_countFaults_0 : decode cX3_countFaults 0 = .ok (.iconst 0, 1) := by decide +kernel
theorem dX3_countFaults_1 : decode cX3_countFaults 1 = .ok (.istore_n 1, 1) := by decide +kernel
theorem dX3_countFaults_2 : decode cX3_countFaults 2 = .ok (.iconst 0, 1) := by decide +kernel
theorem dX3_countFaults_3 : decode cX3_countFaults 3 = .ok (.istore_n 2, 1) := by decide +kernel
theorem dX3_countFaults_4 : decode cX3_countFaults 4 = .ok (.iload_n 2, 1) := by decide +kernel
theorem dX3_countFaults_5 : decode cX3_countFaults 5 = .ok (.aload_n 0, 1) := by decide +kernel
theorem dX3_countFaults_6 : decode cX3_countFaults 6 = .ok (.getfield 31, 3) := by decide +kernel
theorem dX3_countFaults_9 : decode cX3_countFaults 9 = .ok (.invokevirtual 91, 3) := by decide +kernel
theorem dX3_countFaults_12 : decode cX3_countFaults 12 = .ok (.if_icmp .ge 59, 3) := by decide +kernel
theorem dX3_countFaults_15 : decode cX3_countFaults 15 = .ok (.aload_n 0, 1) := by decide +kernel
theorem dX3_countFaults_16 : decode cX3_countFaults 16 = .ok (.getfield 69, 3) := by decide +kernel
theorem dX3_countFaults_19 : decode cX3_countFaults 19 = .ok (.iload_n 2, 1) := by decide +kernel
theorem dX3_countFaults_20 : decode cX3_countFaults 20 = .ok (.invokestatic 94, 3) := by decide +kernel
theorem dX3_countFaults_23 : decode cX3_countFaults 23 = .ok (.ifCond .ne 6, 3) := by decide +kernel
theorem dX3_countFaults_26 : decode cX3_countFaults 26 = .ok (.goto 39, 3) := by decide +kernel
theorem dX3_countFaults_29 : decode cX3_countFaults 29 = .ok (.iconst 0, 1) := by decide +kernel
theorem dX3_countFaults_30 : decode cX3_countFaults 30 = .ok (.istore_n 3, 1) := by decide +kernel
theorem dX3_countFaults_31 : decode cX3_countFaults 31 = .ok (.iload_n 3, 1) := by decide +kernel
theorem dX3_countFaults_32 : decode cX3_countFaults 32 = .ok (.aload_n 0, 1) := by decide +kernel
theorem dX3_countFaults_33 : decode cX3_countFaults 33 = .ok (.getfield 39, 3) := by decide +kernel
theorem dX3_countFaults_36 : decode cX3_countFaults 36 = .ok (.iload_n 2, 1) := by decide +kernel
theorem dX3_countFaults_37 : decode cX3_countFaults 37 = .ok (.invokevirtual 100, 3) := by decide +kernel
theorem dX3_countFaults_40 : decode cX3_countFaults 40 = .ok (.if_icmp .ge 25, 3) := by decide +kernel
theorem dX3_countFaults_43 : decode cX3_countFaults 43 = .ok (.iload_n 1, 1) := by decide +kernel
theorem dX3_countFaults_44 : decode cX3_countFaults 44 = .ok (.aload_n 0, 1) := by decide +kernel
theorem dX3_countFaults_45 : decode cX3_countFaults 45 = .ok (.aload_n 0, 1) := by decide +kernel
theorem dX3_countFaults_46 : decode cX3_countFaults 46 = .ok (.getfield 39, 3) := by decide +kernel
theorem dX3_countFaults_49 : decode cX3_countFaults 49 = .ok (.iload_n 2, 1) := by decide +kernel
theorem dX3_countFaults_50 : decode cX3_countFaults 50 = .ok (.iload_n 3, 1) := by decide +kernel
theorem dX3_countFaults_51 : decode cX3_countFaults 51 = .ok (.invokevirtual 106, 3) := by decide +kernel
theorem dX3_countFaults_54 : decode cX3_countFaults 54 = .ok (.invokevirtual 188, 3) := by decide +kernel
theorem dX3_countFaults_57 : decode cX3_countFaults 57 = .ok (.iadd, 1) := by decide +kernel
theorem dX3_countFaults_58 : decode cX3_countFaults 58 = .ok (.istore_n 1, 1) := by decide +kernel
theorem dX3_countFaults_59 : decode cX3_countFaults 59 = .ok (.iinc 3 1, 3) := by decide +kernel
theorem dX3_countFaults_62 : decode cX3_countFaults 62 = .ok (.goto (-31), 3) := by decide +kernel
theorem dX3_countFaults_65 : decode cX3_countFaults 65 = .ok (.iinc 2 1, 3) := by decide +kernel
theorem dX3_countFaults_68 : decode cX3_countFaults 68 = .ok (.goto (-64), 3) := by decide +kernel
theorem dX3_countFaults_71 : decode cX3_countFaults 71 = .ok (.iload_n 1, 1) := by decide +kernel
theorem dX3_countFaults_72 : decode cX3_countFaults 72 = .ok (.ireturn, 1) := by decide +kernel
set_option maxRecDepth 20000 in
theorem ggX3_allFaultsOf_X3_faultsOf : GoodIn wsX3_allFaultsOf wsX3_faultsOf := goodIn_r _ [5, 6, 7, 8, 9, 10, 11, 12, 13, 14, 15, 16, 17, 18, 19, 20, 21, 22, 23, 24, 25, 26, 4, 27, 28, 29, 30, 31, 32, 33, 34, 35, 36, 37, 38, 39, 40, 41, 42, 43, 44, 45, 46, 47, 48, 49, 50, 51, 52, 53, 54, 55, 56, 57, 58, 59, 60, 61, 62, 63, 64, 65, 66, 67, 68, 69, 70, 71, 72, 73, 74, 75, 76, 77, 78, 79, 80, 81, 82, 83, 84, 85, 86, 87, 88, 89, 90, 91, 92, 93, 94, 95, 96, 97, 98, 99, 100, 101, 102, 103, 104, 105, 106, 107] rfl (by decide +kernel)
set_option maxRecDepth 20000 in
theorem gX3_allFaultsOf_X3_faultsOf : GoodIn wsX3_allFaultsOf (wsV RX3 191 RX3 yX3_faultsOf wsX3_faultsOf) := goodIn_app (goodIn_of _ (by decide +kernel)) ggX3_allFaultsOf_X3_faultsOf
theorem dX3_allFaultsOf_0 : decode cX3_allFaultsOf 0 = .ok (.iconst 0, 1) := by decide +kernel
theorem dX3_allFaultsOf_1 : decode cX3_allFaultsOf 1 = .ok (.istore_n 2, 1) := by decide +kernel
theorem dX3_allFaultsOf_2 : decode cX3_allFaultsOf 2 = .ok (.bipush (-5), 2) := by decide +kernel
theorem dX3_allFaultsOf_4 : decode cX3_allFaultsOf 4 = .ok (.istore_n 3, 1) := by decide +kernel
theorem dX3_allFaultsOf_5 : decode cX3_allFaultsOf 5 = .ok (.iload_n 3, 1) := by decide +kernel
theorem dX3_allFaultsOf_6 : decode cX3_allFaultsOf 6 = .ok (.bipush (-2), 2) := by decide +kernel
theorem dX3_allFaultsOf_8 : decode cX3_allFaultsOf 8 = .ok (.if_icmp .gt 18, 3) := by decide +kernel
theorem dX3_allFaultsOf_11 : decode cX3_allFaultsOf 11 = .ok (.iload_n 2, 1) := by decide +kernel
theorem dX3_allFaultsOf_12 : decode cX3_allFaultsOf 12 = .ok (.aload_n 0, 1) := by decide +kernel
theorem dX3_allFaultsOf_13 : decode cX3_allFaultsOf 13 = .ok (.iload_n 1, 1) := by decide +kernel
theorem dX3_allFaultsOf_14 : decode cX3_allFaultsOf 14 = .ok (.iload_n 3, 1) := by decide +kernel
theorem dX3_allFaultsOf_15 : decode cX3_allFaultsOf 15 = .ok (.invokevirtual 191, 3) := by decide +kernel
theorem dX3_allFaultsOf_18 : decode cX3_allFaultsOf 18 = .ok (.iadd, 1) := by decide +kernel
theorem dX3_allFaultsOf_19 : decode cX3_allFaultsOf 19 = .ok (.istore_n 2, 1) := by decide +kernel
theorem dX3_allFaultsOf_20 : decode cX3_allFaultsOf 20 = .ok (.iinc 3 1, 3) := by decide +kernel
theorem dX3_allFaultsOf_23 : decode cX3_allFaultsOf 23 = .ok (.goto (-18), 3) := by decide +kernel
theorem dX3_allFaultsOf_26 : decode cX3_allFaultsOf 26 = .ok (.iload_n 2, 1) := by decide +kernel
theorem dX3_allFaultsOf_27 : decode cX3_allFaultsOf 27 = .ok (.ireturn, 1) := by decide +kernel
set_option maxRecDepth 20000 in
theorem ggX3_faultsOf_X5_a : GoodIn wsX3_faultsOf wsX5_a := goodIn_r _ [7, 8, 77, 78, 79, 80, 81, 82] rfl (by decide +kernel)
set_option maxRecDepth 20000 in
theorem gX3_faultsOf_X5_a : GoodIn wsX3_faultsOf (wsV RX3 114 RX5 yX5_a wsX5_a) := goodIn_app (goodIn_of _ (by decide +kernel)) ggX3_faultsOf_X5_a
set_option maxRecDepth 20000 in
theorem ggX3_faultsOf_X5_b : GoodIn wsX3_faultsOf wsX5_b := goodIn_r _ [12, 13, 77, 78, 79, 80, 81, 82] rfl (by decide +kernel)
set_option maxRecDepth 20000 in
theorem gX3_faultsOf_X5_b : GoodIn wsX3_faultsOf (wsV RX3 117 RX5 yX5_b wsX5_b) := goodIn_app (goodIn_of _ (by decide +kernel)) ggX3_faultsOf_X5_b
set_option maxRecDepth 20000 in
theorem ggX3_faultsOf_X5_kindOf : GoodIn wsX3_faultsOf wsX5_kindOf := goodIn_r _ [17, 18, 77, 78, 79, 80, 81, 82] rfl (by decide +kernel)
set_option maxRecDepth 20000 in
theorem gX3_faultsOf_X5_kindOf : GoodIn wsX3_faultsOf (wsV RX3 120 RX5 yX5_kindOf wsX5_kindOf) := goodIn_app (goodIn_of _ (by decide +kernel)) ggX3_faultsOf_X5_kindOf
set_option maxRecDepth 20000 in
theorem ggX3_faultsOf_X3_faultsOfMade : GoodIn wsX3_faultsOf wsX3_faultsOfMade := goodIn_r _ [23, 24, 25, 2, 26, 27, 28, 29, 30, 31, 32, 33, 34, 35, 36, 37, 38, 39, 40, 41, 42, 43, 44, 45, 46, 47, 48, 49, 50, 51, 52, 53, 54, 55, 56, 57, 58, 59, 64, 65, 66, 67, 68, 69, 70, 71, 72, 73, 74, 75, 76, 83, 84, 85, 86, 87, 88, 89, 90, 91, 92, 93, 94, 95, 96, 97, 98, 99, 100, 101, 102, 103] rfl (by decide +kernel)
set_option maxRecDepth 20000 in
theorem gX3_faultsOf_X3_faultsOfMade : GoodIn wsX3_faultsOf (wsV RX3 194 RX3 yX3_faultsOfMade wsX3_faultsOfMade) := goodIn_app (goodIn_of _ (by decide +kernel)) ggX3_faultsOf_X3_faultsOfMade
set_option maxRecDepth 20000 in
theorem ggX3_faultsOf_X1_choose : GoodIn wsX3_faultsOf wsX1_choose := goodIn_r _ [50, 51, 52, 53, 54, 55, 56, 57, 58, 59, 89, 90, 91, 92, 93, 94, 95, 96, 97, 98, 99, 100, 101, 102, 103] rfl (by decide +kernel)
set_option maxRecDepth 20000 in
theorem gX3_faultsOf_X1_choose : GoodIn wsX3_faultsOf (wsV RX3 135 RX1 yX1_choose wsX1_choose) := goodIn_app (goodIn_of _ (by decide +kernel)) ggX3_faultsOf_X1_choose
set_option maxRecDepth 20000 in
theorem ggX3_faultsOf_X1_chooseStatic : GoodIn wsX3_faultsOf wsX1_chooseStatic := goodIn_r _ [63, 51, 52, 54, 55, 56, 57, 58, 59, 89, 90, 91, 92, 93, 94, 95, 96, 97, 98, 99, 100, 101, 102, 103] rfl (by decide +kernel)
set_option maxRecDepth 20000 in
theorem gX3_faultsOf_X1_chooseStatic : GoodIn wsX3_faultsOf (wsV RX3 144 RX1 yX1_chooseStatic wsX1_chooseStatic) := goodIn_app (goodIn_of _ (by decide +kernel)) ggX3_faultsOf_X1_chooseStatic
theorem dX3_faultsOf_0 : decode cX3_faultsOf 0 = .ok (.aload_n 0, 1) := by decide +kernel
theorem dX3_faultsOf_1 : decode cX3_faultsOf 1 = .ok (.getfield 39, 3) := by decide +kernel
theorem dX3_faultsOf_4 : decode cX3_faultsOf 4 = .ok (.iload_n 1, 1) := by decide +kernel
theorem dX3_faultsOf_5 : decode cX3_faultsOf 5 = .ok (.invokevirtual 114, 3) := by decide +kernel
theorem dX3_faultsOf_8 : decode cX3_faultsOf 8 = .ok (.istore_n 3, 1) := by decide +kernel
theorem dX3_faultsOf_9 : decode cX3_faultsOf 9 = .ok (.aload_n 0, 1) := by decide +kernel
theorem dX3_faultsOf_10 : decode cX3_faultsOf 10 = .ok (.getfield 39, 3) := by decide +kernel
theorem dX3_faultsOf_13 : decode cX3_faultsOf 13 = .ok (.iload_n 1, 1) := by decide +kernel
theorem dX3_faultsOf_14 : decode cX3_faultsOf 14 = .ok (.invokevirtual 117, 3) := by decide +kernel
theorem dX3_faultsOf_17 : decode cX3_faultsOf 17 = .ok (.istore 4, 2) := by decide +kernel
theorem dX3_faultsOf_19 : decode cX3_faultsOf 19 = .ok (.aload_n 0, 1) := by decide +kernel
theorem dX3_faultsOf_20 : decode cX3_faultsOf 20 = .ok (.getfield 39, 3) := by decide +kernel
theorem dX3_faultsOf_23 : decode cX3_faultsOf 23 = .ok (.iload_n 1, 1) := by decide +kernel
theorem dX3_faultsOf_24 : decode cX3_faultsOf 24 = .ok (.invokevirtual 120, 3) := by decide +kernel
theorem dX3_faultsOf_27 : decode cX3_faultsOf 27 = .ok (.tableswitch 79 1 4 #[29, 38, 59, 29], 29) := by decide +kernel
theorem dX3_faultsOf_56 : decode cX3_faultsOf 56 = .ok (.aload_n 0, 1) := by decide +kernel
theorem dX3_faultsOf_57 : decode cX3_faultsOf 57 = .ok (.iload_n 3, 1) := by decide +kernel
theorem dX3_faultsOf_58 : decode cX3_faultsOf 58 = .ok (.iload 4, 2) := by decide +kernel
theorem dX3_faultsOf_60 : decode cX3_faultsOf 60 = .ok (.iload_n 2, 1) := by decide +kernel
theorem dX3_faultsOf_61 : decode cX3_faultsOf 61 = .ok (.invokevirtual 194, 3) := by decide +kernel
theorem dX3_faultsOf_64 : decode cX3_faultsOf 64 = .ok (.ireturn, 1) := by decide +kernel
theorem dX3_faultsOf_65 : decode cX3_faultsOf 65 = .ok (.aload_n 0, 1) := by decide +kernel
theorem dX3_faultsOf_66 : decode cX3_faultsOf 66 = .ok (.getfield 35, 3) := by decide +kernel
theorem dX3_faultsOf_69 : decode cX3_faultsOf 69 = .ok (.iload_n 3, 1) := by decide +kernel
theorem dX3_faultsOf_70 : decode cX3_faultsOf 70 = .ok (.iload_n 3, 1) := by decide +kernel
theorem dX3_faultsOf_71 : decode cX3_faultsOf 71 = .ok (.iload 4, 2) := by decide +kernel
theorem dX3_faultsOf_73 : decode cX3_faultsOf 73 = .ok (.invokevirtual 135, 3) := by decide +kernel
theorem dX3_faultsOf_76 : decode cX3_faultsOf 76 = .ok (.iload_n 2, 1) := by decide +kernel
theorem dX3_faultsOf_77 : decode cX3_faultsOf 77 = .ok (.if_icmp .ne 7, 3) := by decide +kernel
theorem dX3_faultsOf_80 : decode cX3_faultsOf 80 = .ok (.iconst 1, 1) := by decide +kernel
theorem dX3_faultsOf_81 : decode cX3_faultsOf 81 = .ok (.goto 4, 3) := by decide +kernel
theorem dX3_faultsOf_84 : decode cX3_faultsOf 84 = .ok (.iconst 0, 1) := by decide +kernel
theorem dX3_faultsOf_85 : decode cX3_faultsOf 85 = .ok (.ireturn, 1) := by decide +kernel
theorem dX3_faultsOf_86 : decode cX3_faultsOf 86 = .ok (.aload_n 0, 1) := by decide +kernel
theorem dX3_faultsOf_87 : decode cX3_faultsOf 87 = .ok (.getfield 35, 3) := by decide +kernel
theorem dX3_faultsOf_90 : decode cX3_faultsOf 90 = .ok (.iload_n 3, 1) := by decide +kernel
theorem dX3_faultsOf_91 : decode cX3_faultsOf 91 = .ok (.iload 4, 2) := by decide +kernel
theorem dX3_faultsOf_93 : decode cX3_faultsOf 93 = .ok (.invokevirtual 144, 3) := by decide +kernel
theorem dX3_faultsOf_96 : decode cX3_faultsOf 96 = .ok (.iload_n 2, 1) := by decide +kernel
theorem dX3_faultsOf_97 : decode cX3_faultsOf 97 = .ok (.if_icmp .ne 7, 3) := by decide +kernel
theorem dX3_faultsOf_100 : decode cX3_faultsOf 100 = .ok (.iconst 1, 1) := by decide +kernel
theorem dX3_faultsOf_101 : decode cX3_faultsOf 101 = .ok (.goto 4, 3) := by decide +kernel
theorem dX3_faultsOf_104 : decode cX3_faultsOf 104 = .ok (.iconst 0, 1) := by decide +kernel
theorem dX3_faultsOf_105 : decode cX3_faultsOf 105 = .ok (.ireturn, 1) := by decide +kernel
theorem dX3_faultsOf_106 : decode cX3_faultsOf 106 = .ok (.iconst 0, 1) := by decide +kernel
theorem dX3_faultsOf_107 : decode cX3_faultsOf 107 = .ok (.ireturn, 1) := by decide +kernel
set_option maxRecDepth 20000 in
theorem ggX3_faultsOfMade_X6_size : GoodIn wsX3_faultsOfMade wsX6_size := goodIn_r _ [12, 13, 51, 52, 53, 54, 55, 56] rfl (by decide +kernel)
set_option maxRecDepth 20000 in
theorem gX3_faultsOfMade_X6_size : GoodIn wsX3_faultsOfMade (wsV RX3 154 RX6 yX6_size wsX6_size) := goodIn_app (goodIn_of _ (by decide +kernel)) ggX3_faultsOfMade_X6_size
set_option maxRecDepth 20000 in
theorem ggX3_faultsOfMade_X0_has : GoodIn wsX3_faultsOfMade wsX0_has := goodIn_r _ [17] rfl (by decide +kernel)
set_option maxRecDepth 20000 in
theorem gX3_faultsOfMade_X0_has : GoodIn wsX3_faultsOfMade (va_wsS RX3 94 yX0_has wsX0_has) := goodIn_app (goodIn_of _ (by decide +kernel)) ggX3_faultsOfMade_X0_has
set_option maxRecDepth 20000 in
theorem ggX3_faultsOfMade_X6_isUnder : GoodIn wsX3_faultsOfMade wsX6_isUnder := goodIn_r _ [21, 22, 23, 15, 16, 17, 51, 52, 53, 54, 55, 56] rfl (by decide +kernel)
set_option maxRecDepth 20000 in
theorem gX3_faultsOfMade_X6_isUnder : GoodIn wsX3_faultsOfMade (wsV RX3 157 RX6 yX6_isUnder wsX6_isUnder) := goodIn_app (goodIn_of _ (by decide +kernel)) ggX3_faultsOfMade_X6_isUnder
set_option maxRecDepth 20000 in
theorem ggX3_faultsOfMade_X1_choose : GoodIn wsX3_faultsOfMade wsX1_choose := goodIn_r _ [28, 29, 30, 31, 32, 33, 34, 35, 36, 37, 57, 58, 59, 60, 61, 62, 63, 64, 65, 66, 67, 68, 69, 70, 71] rfl (by decide +kernel)
set_option maxRecDepth 20000 in
theorem gX3_faultsOfMade_X1_choose : GoodIn wsX3_faultsOfMade (wsV RX3 135 RX1 yX1_choose wsX1_choose) := goodIn_app (goodIn_of _ (by decide +kernel)) ggX3_faultsOfMade_X1_choose
theorem dX3_faultsOfMade_0 : decode cX3_faultsOfMade 0 = .ok (.iconst 0, 1) := by decide +kernel
theorem dX3_faultsOfMade_1 : decode cX3_faultsOfMade 1 = .ok (.istore 4, 2) := by decide +kernel
theorem dX3_faultsOfMade_3 : decode cX3_faultsOfMade 3 = .ok (.iconst 0, 1) := by decide +kernel
theorem dX3_faultsOfMade_4 : decode cX3_faultsOfMade 4 = .ok (.istore 5, 2) := by decide +kernel
theorem dX3_faultsOfMade_6 : decode cX3_faultsOfMade 6 = .ok (.iload 5, 2) := by decide +kernel
theorem dX3_faultsOfMade_8 : decode cX3_faultsOfMade 8 = .ok (.aload_n 0, 1) := by decide +kernel
theorem dX3_faultsOfMade_9 : decode cX3_faultsOfMade 9 = .ok (.getfield 27, 3) := by decide +kernel
theorem dX3_faultsOfMade_12 : decode cX3_faultsOfMade 12 = .ok (.invokevirtual 154, 3) := by decide +kernel
theorem dX3_faultsOfMade_15 : decode cX3_faultsOfMade 15 = .ok (.if_icmp .ge 55, 3) := by decide +kernel
theorem dX3_faultsOfMade_18 : decode cX3_faultsOfMade 18 = .ok (.aload_n 0, 1) := by decide +kernel
theorem dX3_faultsOfMade_19 : decode cX3_faultsOfMade 19 = .ok (.getfield 73, 3) := by decide +kernel
theorem dX3_faultsOfMade_22 : decode cX3_faultsOfMade 22 = .ok (.iload 5, 2) := by decide +kernel
theorem dX3_faultsOfMade_24 : decode cX3_faultsOfMade 24 = .ok (.invokestatic 94, 3) := by decide +kernel
theorem dX3_faultsOfMade_27 : decode cX3_faultsOfMade 27 = .ok (.ifCond .eq 37, 3) := by decide +kernel
theorem dX3_faultsOfMade_30 : decode cX3_faultsOfMade 30 = .ok (.aload_n 0, 1) := by decide +kernel
theorem dX3_faultsOfMade_31 : decode cX3_faultsOfMade 31 = .ok (.getfield 27, 3) := by decide +kernel
theorem dX3_faultsOfMade_34 : decode cX3_faultsOfMade 34 = .ok (.iload 5, 2) := by decide +kernel
theorem dX3_faultsOfMade_36 : decode cX3_faultsOfMade 36 = .ok (.iload_n 1, 1) := by decide +kernel
theorem dX3_faultsOfMade_37 : decode cX3_faultsOfMade 37 = .ok (.invokevirtual 157, 3) := by decide +kernel
theorem dX3_faultsOfMade_40 : decode cX3_faultsOfMade 40 = .ok (.ifCond .ne 6, 3) := by decide +kernel
theorem dX3_faultsOfMade_43 : decode cX3_faultsOfMade 43 = .ok (.goto 21, 3) := by decide +kernel
theorem dX3_faultsOfMade_46 : decode cX3_faultsOfMade 46 = .ok (.aload_n 0, 1) := by decide +kernel
theorem dX3_faultsOfMade_47 : decode cX3_faultsOfMade 47 = .ok (.getfield 35, 3) := by decide +kernel
theorem dX3_faultsOfMade_50 : decode cX3_faultsOfMade 50 = .ok (.iload 5, 2) := by decide +kernel
theorem dX3_faultsOfMade_52 : decode cX3_faultsOfMade 52 = .ok (.iload_n 1, 1) := by decide +kernel
theorem dX3_faultsOfMade_53 : decode cX3_faultsOfMade 53 = .ok (.iload_n 2, 1) := by decide +kernel
theorem dX3_faultsOfMade_54 : decode cX3_faultsOfMade 54 = .ok (.invokevirtual 135, 3) := by decide +kernel
theorem dX3_faultsOfMade_57 : decode cX3_faultsOfMade 57 = .ok (.iload_n 3, 1) := by decide +kernel
theorem dX3_faultsOfMade_58 : decode cX3_faultsOfMade 58 = .ok (.if_icmp .ne 6, 3) := by decide +kernel
theorem dX3_faultsOfMade_61 : decode cX3_faultsOfMade 61 = .ok (.iinc 4 1, 3) := by decide +kernel
theorem dX3_faultsOfMade_64 : decode cX3_faultsOfMade 64 = .ok (.iinc 5 1, 3) := by decide +kernel
theorem dX3_faultsOfMade_67 : decode cX3_faultsOfMade 67 = .ok (.goto (-61), 3) := by decide +kernel
theorem dX3_faultsOfMade_70 : decode cX3_faultsOfMade 70 = .ok (.iload_n 3, 1) := by decide +kernel
theorem dX3_faultsOfMade_71 : decode cX3_faultsOfMade 71 = .ok (.bipush (-2), 2) := by decide +kernel
theorem dX3_faultsOfMade_73 : decode cX3_faultsOfMade 73 = .ok (.if_icmp .eq 9, 3) := by decide +kernel
theorem dX3_faultsOfMade_76 : decode cX3_faultsOfMade 76 = .ok (.iload_n 3, 1) := by decide +kernel
theorem dX3_faultsOfMade_77 : decode cX3_faultsOfMade 77 = .ok (.bipush (-3), 2) := by decide +kernel
theorem dX3_faultsOfMade_79 : decode cX3_faultsOfMade 79 = .ok (.if_icmp .ne 12, 3) := by decide +kernel
theorem dX3_faultsOfMade_82 : decode cX3_faultsOfMade 82 = .ok (.iload 4, 2) := by decide +kernel
theorem dX3_faultsOfMade_84 : decode cX3_faultsOfMade 84 = .ok (.iconst 1, 1) := by decide +kernel
theorem dX3_faultsOfMade_85 : decode cX3_faultsOfMade 85 = .ok (.invokestatic 197, 3) := by decide +kernel
theorem dX3_faultsOfMade_88 : decode cX3_faultsOfMade 88 = .ok (.goto 5, 3) := by decide +kernel
theorem dX3_faultsOfMade_91 : decode cX3_faultsOfMade 91 = .ok (.iload 4, 2) := by decide +kernel
theorem dX3_faultsOfMade_93 : decode cX3_faultsOfMade 93 = .ok (.ireturn, 1) := by decide +kernel
set_option maxRecDepth 20000 in
theorem ggX3_onWay_X0_has : GoodIn wsX3_onWay wsX0_has := goodIn_r _ [8] rfl (by decide +kernel)
set_option maxRecDepth 20000 in
theorem gX3_onWay_X0_has : GoodIn wsX3_onWay (va_wsS RX3 94 yX0_has wsX0_has) := goodIn_app (goodIn_of _ (by decide +kernel)) ggX3_onWay_X0_has
set_option maxRecDepth 20000 in
theorem ggX3_onWay_X3_layWay : GoodIn wsX3_onWay wsX3_layWay := goodIn_r _ [13, 2, 3, 14, 15, 16, 17, 18, 19, 20, 21, 22, 12, 23, 4, 24, 25, 26, 27, 28, 29, 30, 7, 31, 46, 47, 48, 49, 50, 51, 52, 53, 54, 55, 56, 57, 58, 59, 60, 61, 62, 63, 64, 65, 66, 67, 68, 69] rfl (by decide +kernel)
set_option maxRecDepth 20000 in
theorem gX3_onWay_X3_layWay : GoodIn wsX3_onWay (wsV RX3 202 RX3 yX3_layWay wsX3_layWay) := goodIn_app (goodIn_of _ (by decide +kernel)) ggX3_onWay_X3_layWay
set_option maxRecDepth 20000 in
theorem ggX3_onWay_X4_roots : GoodIn wsX3_onWay wsX4_roots := goodIn_r _ [18, 19, 59, 60, 61, 62, 63, 64, 65, 66, 67, 68, 69] rfl (by decide +kernel)
set_option maxRecDepth 20000 in
theorem gX3_onWay_X4_roots : GoodIn wsX3_onWay (wsV RX3 63 RX4 yX4_roots wsX4_roots) := goodIn_app (goodIn_of _ (by decide +kernel)) ggX3_onWay_X4_roots
set_option maxRecDepth 20000 in
theorem ggX3_onWay_X0_least : GoodIn wsX3_onWay wsX0_least := goodIn_r _ [34, 35, 36, 7, 37, 38, 39, 40, 41, 42, 43, 44, 45, 6, 8] rfl (by decide +kernel)
set_option maxRecDepth 20000 in
theorem gX3_onWay_X0_least : GoodIn wsX3_onWay (va_wsS RX3 205 yX0_least wsX0_least) := goodIn_app (goodIn_of _ (by decide +kernel)) ggX3_onWay_X0_least
theorem dX3_onWay_0 : decode cX3_onWay 0 = .ok (.aload_n 0, 1) := by decide +kernel
theorem dX3_onWay_1 : decode cX3_onWay 1 = .ok (.getfield 69, 3) := by decide +kernel
theorem dX3_onWay_4 : decode cX3_onWay 4 = .ok (.iload_n 1, 1) := by decide +kernel
theorem dX3_onWay_5 : decode cX3_onWay 5 = .ok (.invokestatic 94, 3) := by decide +kernel
theorem dX3_onWay_8 : decode cX3_onWay 8 = .ok (.ifCond .ne 5, 3) := by decide +kernel
theorem dX3_onWay_11 : decode cX3_onWay 11 = .ok (.iconst (-1), 1) := by decide +kernel
theorem dX3_onWay_12 : decode cX3_onWay 12 = .ok (.ireturn, 1) := by decide +kernel
theorem dX3_onWay_13 : decode cX3_onWay 13 = .ok (.aload_n 0, 1) := by decide +kernel
theorem dX3_onWay_14 : decode cX3_onWay 14 = .ok (.iload_n 1, 1) := by decide +kernel
theorem dX3_onWay_15 : decode cX3_onWay 15 = .ok (.invokevirtual 202, 3) := by decide +kernel
theorem dX3_onWay_18 : decode cX3_onWay 18 = .ok (.istore_n 3, 1) := by decide +kernel
theorem dX3_onWay_19 : decode cX3_onWay 19 = .ok (.iload_n 2, 1) := by decide +kernel
theorem dX3_onWay_20 : decode cX3_onWay 20 = .ok (.ifCond .lt 8, 3) := by decide +kernel
theorem dX3_onWay_23 : decode cX3_onWay 23 = .ok (.iload_n 2, 1) := by decide +kernel
theorem dX3_onWay_24 : decode cX3_onWay 24 = .ok (.iload_n 3, 1) := by decide +kernel
theorem dX3_onWay_25 : decode cX3_onWay 25 = .ok (.if_icmp .le 5, 3) := by decide +kernel
theorem dX3_onWay_28 : decode cX3_onWay 28 = .ok (.iconst (-1), 1) := by decide +kernel
theorem dX3_onWay_29 : decode cX3_onWay 29 = .ok (.ireturn, 1) := by decide +kernel
theorem dX3_onWay_30 : decode cX3_onWay 30 = .ok (.aload_n 0, 1) := by decide +kernel
theorem dX3_onWay_31 : decode cX3_onWay 31 = .ok (.getfield 24, 3) := by decide +kernel
theorem dX3_onWay_34 : decode cX3_onWay 34 = .ok (.iload_n 3, 1) := by decide +kernel
theorem dX3_onWay_35 : decode cX3_onWay 35 = .ok (.laload, 1) := by decide +kernel
theorem dX3_onWay_36 : decode cX3_onWay 36 = .ok (.aload_n 0, 1) := by decide +kernel
theorem dX3_onWay_37 : decode cX3_onWay 37 = .ok (.getfield 31, 3) := by decide +kernel
theorem dX3_onWay_40 : decode cX3_onWay 40 = .ok (.invokevirtual 63, 3) := by decide +kernel
theorem dX3_onWay_43 : decode cX3_onWay 43 = .ok (.land, 1) := by decide +kernel
theorem dX3_onWay_44 : decode cX3_onWay 44 = .ok (.invokestatic 205, 3) := by decide +kernel
theorem dX3_onWay_47 : decode cX3_onWay 47 = .ok (.istore 4, 2) := by decide +kernel
theorem dX3_onWay_49 : decode cX3_onWay 49 = .ok (.iconst 1, 1) := by decide +kernel
theorem dX3_onWay_50 : decode cX3_onWay 50 = .ok (.istore 5, 2) := by decide +kernel
theorem dX3_onWay_52 : decode cX3_onWay 52 = .ok (.iload 5, 2) := by decide +kernel
theorem dX3_onWay_54 : decode cX3_onWay 54 = .ok (.iload_n 2, 1) := by decide +kernel
theorem dX3_onWay_55 : decode cX3_onWay 55 = .ok (.if_icmp .gt 37, 3) := by decide +kernel
theorem dX3_onWay_58 : decode cX3_onWay 58 = .ok (.iload 4, 2) := by decide +kernel
theorem dX3_onWay_60 : decode cX3_onWay 60 = .ok (.iconst (-1), 1) := by decide +kernel
theorem dX3_onWay_61 : decode cX3_onWay 61 = .ok (.if_icmp .eq 31, 3) := by decide +kernel
theorem dX3_onWay_64 : decode cX3_onWay 64 = .ok (.aload_n 0, 1) := by decide +kernel
theorem dX3_onWay_65 : decode cX3_onWay 65 = .ok (.getfield 24, 3) := by decide +kernel
theorem dX3_onWay_68 : decode cX3_onWay 68 = .ok (.iload_n 3, 1) := by decide +kernel
theorem dX3_onWay_69 : decode cX3_onWay 69 = .ok (.iload 5, 2) := by decide +kernel
theorem dX3_onWay_71 : decode cX3_onWay 71 = .ok (.isub, 1) := by decide +kernel
theorem dX3_onWay_72 : decode cX3_onWay 72 = .ok (.laload, 1) := by decide +kernel
theorem dX3_onWay_73 : decode cX3_onWay 73 = .ok (.aload_n 0, 1) := by decide +kernel
theorem dX3_onWay_74 : decode cX3_onWay 74 = .ok (.getfield 18, 3) := by decide +kernel
theorem dX3_onWay_77 : decode cX3_onWay 77 = .ok (.iload 4, 2) := by decide +kernel
theorem dX3_onWay_79 : decode cX3_onWay 79 = .ok (.laload, 1) := by decide +kernel
theorem dX3_onWay_80 : decode cX3_onWay 80 = .ok (.land, 1) := by decide +kernel
theorem dX3_onWay_81 : decode cX3_onWay 81 = .ok (.invokestatic 205, 3) := by decide +kernel
theorem dX3_onWay_84 : decode cX3_onWay 84 = .ok (.istore 4, 2) := by decide +kernel
theorem dX3_onWay_86 : decode cX3_onWay 86 = .ok (.iinc 5 1, 3) := by decide +kernel
theorem dX3_onWay_89 : decode cX3_onWay 89 = .ok (.goto (-37), 3) := by decide +kernel
theorem dX3_onWay_92 : decode cX3_onWay 92 = .ok (.iload 4, 2) := by decide +kernel
theorem dX3_onWay_94 : decode cX3_onWay 94 = .ok (.ireturn, 1) := by decide +kernel
set_option maxRecDepth 20000 in
theorem ggX3_layWay_X4_roots : GoodIn wsX3_layWay wsX4_roots := goodIn_r _ [7, 8, 37, 38, 39, 40, 41, 42, 43, 44, 45, 46, 47] rfl (by decide +kernel)
set_option maxRecDepth 20000 in
theorem gX3_layWay_X4_roots : GoodIn wsX3_layWay (wsV RX3 63 RX4 yX4_roots wsX4_roots) := goodIn_app (goodIn_of _ (by decide +kernel)) ggX3_layWay_X4_roots
set_option maxRecDepth 20000 in
theorem ggX3_layWay_X3_callersOfAny : GoodIn wsX3_layWay wsX3_callersOfAny := goodIn_r _ [13, 2, 14, 15, 16, 17, 6, 18, 19, 20, 21, 22, 23, 24, 25, 26, 27, 28, 29, 30, 31, 32, 33, 34, 35, 36, 37, 38, 39, 40, 41, 42, 43, 44, 45, 46, 47] rfl (by decide +kernel)
set_option maxRecDepth 20000 in
theorem gX3_layWay_X3_callersOfAny : GoodIn wsX3_layWay (wsV RX3 179 RX3 yX3_callersOfAny wsX3_callersOfAny) := goodIn_app (goodIn_of _ (by decide +kernel)) ggX3_layWay_X3_callersOfAny
theorem dX3_layWay_0 : decode cX3_layWay 0 = .ok (.lconst 1, 1) := by decide +kernel
theorem dX3_layWay_1 : decode cX3_layWay 1 = .ok (.iload_n 1, 1) := by decide +kernel
theorem dX3_layWay_2 : decode cX3_layWay 2 = .ok (.lshl, 1) := by decide +kernel
theorem dX3_layWay_3 : decode cX3_layWay 3 = .ok (.lstore_n 2, 1) := by decide +kernel
theorem dX3_layWay_4 : decode cX3_layWay 4 = .ok (.iconst 0, 1) := by decide +kernel
theorem dX3_layWay_5 : decode cX3_layWay 5 = .ok (.istore 4, 2) := by decide +kernel
theorem dX3_layWay_7 : decode cX3_layWay 7 = .ok (.iload 4, 2) := by decide +kernel
theorem dX3_layWay_9 : decode cX3_layWay 9 = .ok (.bipush 48, 2) := by decide +kernel
theorem dX3_layWay_11 : decode cX3_layWay 11 = .ok (.if_icmp .ge 40, 3) := by decide +kernel
theorem dX3_layWay_14 : decode cX3_layWay 14 = .ok (.aload_n 0, 1) := by decide +kernel
theorem dX3_layWay_15 : decode cX3_layWay 15 = .ok (.getfield 24, 3) := by decide +kernel
theorem dX3_layWay_18 : decode cX3_layWay 18 = .ok (.iload 4, 2) := by decide +kernel
theorem dX3_layWay_20 : decode cX3_layWay 20 = .ok (.lload_n 2, 1) := by decide +kernel
theorem dX3_layWay_21 : decode cX3_layWay 21 = .ok (.lastore, 1) := by decide +kernel
theorem dX3_layWay_22 : decode cX3_layWay 22 = .ok (.lload_n 2, 1) := by decide +kernel
theorem dX3_layWay_23 : decode cX3_layWay 23 = .ok (.aload_n 0, 1) := by decide +kernel
theorem dX3_layWay_24 : decode cX3_layWay 24 = .ok (.getfield 31, 3) := by decide +kernel
theorem dX3_layWay_27 : decode cX3_layWay 27 = .ok (.invokevirtual 63, 3) := by decide +kernel
theorem dX3_layWay_30 : decode cX3_layWay 30 = .ok (.land, 1) := by decide +kernel
theorem dX3_layWay_31 : decode cX3_layWay 31 = .ok (.lconst 0, 1) := by decide +kernel
theorem dX3_layWay_32 : decode cX3_layWay 32 = .ok (.lcmp, 1) := by decide +kernel
theorem dX3_layWay_33 : decode cX3_layWay 33 = .ok (.ifCond .eq 6, 3) := by decide +kernel
theorem dX3_layWay_36 : decode cX3_layWay 36 = .ok (.iload 4, 2) := by decide +kernel
theorem dX3_layWay_38 : decode cX3_layWay 38 = .ok (.ireturn, 1) := by decide +kernel
theorem dX3_layWay_39 : decode cX3_layWay 39 = .ok (.aload_n 0, 1) := by decide +kernel
theorem dX3_layWay_40 : decode cX3_layWay 40 = .ok (.lload_n 2, 1) := by decide +kernel
theorem dX3_layWay_41 : decode cX3_layWay 41 = .ok (.invokevirtual 179, 3) := by decide +kernel
theorem dX3_layWay_44 : decode cX3_layWay 44 = .ok (.lstore_n 2, 1) := by decide +kernel
theorem dX3_layWay_45 : decode cX3_layWay 45 = .ok (.iinc 4 1, 3) := by decide +kernel
theorem dX3_layWay_48 : decode cX3_layWay 48 = .ok (.goto (-41), 3) := by decide +kernel
theorem dX3_layWay_51 : decode cX3_layWay 51 = .ok (.iconst (-1), 1) := by decide +kernel
theorem dX3_layWay_52 : decode cX3_layWay 52 = .ok (.ireturn, 1) := by decide +kernel
set_option maxRecDepth 20000 in
theorem ggX4_init_J7_fill_53178 : GoodIn wsX4_init wsJ7_fill_53178 := goodIn_r _ [16] rfl (by decide +kernel)
set_option maxRecDepth 20000 in
theorem gX4_init_J7_fill_53178 : GoodIn wsX4_init (va_wsS RX4 35 yJ7_fill_53178 wsJ7_fill_53178) := goodIn_app (goodIn_of _ (by decide +kernel)) ggX4_init_J7_fill_53178
theorem dX4_init_0 : decode cX4_init 0 = .ok (.aload_n 0, 1) := by decide +kernel
theorem dX4_init_1 : decode cX4_init 1 = .ok (.invokespecial 3, 3) := by decide +kernel
theorem dX4_init_4 : decode cX4_init 4 = .ok (.aload_n 0, 1) := by decide +kernel
theorem dX4_init_5 : decode cX4_init 5 = .ok (.bipush 48, 2) := by decide +kernel
theorem dX4_init_7 : decode cX4_init 7 = .ok (.newarray .int, 2) := by decide +kernel
theorem dX4_init_9 : decode cX4_init 9 = .ok (.putfield 9, 3) := by decide +kernel
theorem dX4_init_12 : decode cX4_init 12 = .ok (.aload_n 0, 1) := by decide +kernel
theorem dX4_init_13 : decode cX4_init 13 = .ok (.bipush 48, 2) := by decide +kernel
theorem dX4_init_15 : decode cX4_init 15 = .ok (.newarray .int, 2) := by decide +kernel
theorem dX4_init_17 : decode cX4_init 17 = .ok (.putfield 15, 3) := by decide +kernel
theorem dX4_init_20 : decode cX4_init 20 = .ok (.aload_n 0, 1) := by decide +kernel
theorem dX4_init_21 : decode cX4_init 21 = .ok (.sipush 160, 3) := by decide +kernel
theorem dX4_init_24 : decode cX4_init 24 = .ok (.newarray .int, 2) := by decide +kernel
theorem dX4_init_26 : decode cX4_init 26 = .ok (.putfield 18, 3) := by decide +kernel
theorem dX4_init_29 : decode cX4_init 29 = .ok (.aload_n 0, 1) := by decide +kernel
theorem dX4_init_30 : decode cX4_init 30 = .ok (.bipush 16, 2) := by decide +kernel
theorem dX4_init_32 : decode cX4_init 32 = .ok (.newarray .int, 2) := by decide +kernel
theorem dX4_init_34 : decode cX4_init 34 = .ok (.putfield 21, 3) := by decide +kernel
theorem dX4_init_37 : decode cX4_init 37 = .ok (.aload_n 0, 1) := by decide +kernel
theorem dX4_init_38 : decode cX4_init 38 = .ok (.bipush 10, 2) := by decide +kernel
theorem dX4_init_40 : decode cX4_init 40 = .ok (.newarray .long, 2) := by decide +kernel
theorem dX4_init_42 : decode cX4_init 42 = .ok (.putfield 24, 3) := by decide +kernel
theorem dX4_init_45 : decode cX4_init 45 = .ok (.aload_n 0, 1) := by decide +kernel
theorem dX4_init_46 : decode cX4_init 46 = .ok (.bipush 10, 2) := by decide +kernel
theorem dX4_init_48 : decode cX4_init 48 = .ok (.newarray .long, 2) := by decide +kernel
theorem dX4_init_50 : decode cX4_init 50 = .ok (.putfield 28, 3) := by decide +kernel
theorem dX4_init_53 : decode cX4_init 53 = .ok (.aload_n 0, 1) := by decide +kernel
theorem dX4_init_54 : decode cX4_init 54 = .ok (.aload_n 1, 1) := by decide +kernel
theorem dX4_init_55 : decode cX4_init 55 = .ok (.putfield 31, 3) := by decide +kernel
theorem dX4_init_58 : decode cX4_init 58 = .ok (.aload_n 0, 1) := by decide +kernel
theorem dX4_init_59 : decode cX4_init 59 = .ok (.getfield 18, 3) := by decide +kernel
theorem dX4_init_62 : decode cX4_init 62 = .ok (.iconst (-1), 1) := by decide +kernel
theorem dX4_init_63 : decode cX4_init 63 = .ok (.invokestatic 35, 3) := by decide +kernel
theorem dX4_init_66 : decode cX4_init 66 = .ok (.aload_n 0, 1) := by decide +kernel
theorem dX4_init_67 : decode cX4_init 67 = .ok (.getfield 21, 3) := by decide +kernel
theorem dX4_init_70 : decode cX4_init 70 = .ok (.iconst (-1), 1) := by decide +kernel
theorem dX4_init_71 : decode cX4_init 71 = .ok (.invokestatic 35, 3) := by decide +kernel
theorem dX4_init_74 : decode cX4_init 74 = .ok (.return_, 1) := by decide +kernel
theorem dX4_size_0 : decode cX4_size 0 = .ok (.aload_n 0, 1) := by decide +kernel
theorem dX4_size_1 : decode cX4_size 1 = .ok (.getfield 41, 3) := by decide +kernel
theorem dX4_size_4 : decode cX4_size 4 = .ok (.ireturn, 1) := by decide +kernel
theorem dX4_knows_0 : decode cX4_knows 0 = .ok (.iload_n 1, 1) := by decide +kernel
theorem dX4_knows_1 : decode cX4_knows 1 = .ok (.ifCond .lt 15, 3) := by decide +kernel
theorem dX4_knows_4 : decode cX4_knows 4 = .ok (.iload_n 1, 1) := by decide +kernel
theorem dX4_knows_5 : decode cX4_knows 5 = .ok (.aload_n 0, 1) := by decide +kernel
theorem dX4_knows_6 : decode cX4_knows 6 = .ok (.getfield 41, 3) := by decide +kernel
theorem dX4_knows_9 : decode cX4_knows 9 = .ok (.if_icmp .ge 7, 3) := by decide +kernel
theorem dX4_knows_12 : decode cX4_knows 12 = .ok (.iconst 1, 1) := by decide +kernel
theorem dX4_knows_13 : decode cX4_knows 13 = .ok (.goto 4, 3) := by decide +kernel
theorem dX4_knows_16 : decode cX4_knows 16 = .ok (.iconst 0, 1) := by decide +kernel
theorem dX4_knows_17 : decode cX4_knows 17 = .ok (.ireturn, 1) := by decide +kernel
theorem dX4_typeOf_0 : decode cX4_typeOf 0 = .ok (.aload_n 0, 1) := by decide +kernel
theorem dX4_typeOf_1 : decode cX4_typeOf 1 = .ok (.getfield 9, 3) := by decide +kernel
theorem dX4_typeOf_4 : decode cX4_typeOf 4 = .ok (.iload_n 1, 1) := by decide +kernel
theorem dX4_typeOf_5 : decode cX4_typeOf 5 = .ok (.iaload, 1) := by decide +kernel
theorem dX4_typeOf_6 : decode cX4_typeOf 6 = .ok (.ireturn, 1) := by decide +kernel
theorem dX4_sortOf_0 : decode cX4_sortOf 0 = .ok (.aload_n 0, 1) := by decide +kernel
theorem dX4_sortOf_1 : decode cX4_sortOf 1 = .ok (.getfield 15, 3) := by decide +kernel
theorem dX4_sortOf_4 : decode cX4_sortOf 4 = .ok (.iload_n 1, 1) := by decide +kernel
theorem dX4_sortOf_5 : decode cX4_sortOf 5 = .ok (.iaload, 1) := by decide +kernel
theorem dX4_sortOf_6 : decode cX4_sortOf 6 = .ok (.ireturn, 1) := by decide +kernel
theorem dX4_named_0 : decode cX4_named 0 = .ok (.aload_n 0, 1) := by decide +kernel
theorem dX4_named_1 : decode cX4_named 1 = .ok (.getfield 18, 3) := by decide +kernel
theorem dX4_named_4 : decode cX4_named 4 = .ok (.iload_n 1, 1) := by decide +kernel
theorem dX4_named_5 : decode cX4_named 5 = .ok (.bipush 10, 2) := by decide +kernel
theorem dX4_named_7 : decode cX4_named 7 = .ok (.imul, 1) := by decide +kernel
theorem dX4_named_8 : decode cX4_named 8 = .ok (.iload_n 2, 1) := by decide +kernel
theorem dX4_named_9 : decode cX4_named 9 = .ok (.iadd, 1) := by decide +kernel
theorem dX4_named_10 : decode cX4_named 10 = .ok (.iaload, 1) := by decide +kernel
theorem dX4_named_11 : decode cX4_named 11 = .ok (.ireturn, 1) := by decide +kernel
theorem dX4_startOf_0 : decode cX4_startOf 0 = .ok (.aload_n 0, 1) := by decide +kernel
theorem dX4_startOf_1 : decode cX4_startOf 1 = .ok (.getfield 21, 3) := by decide +kernel
theorem dX4_startOf_4 : decode cX4_startOf 4 = .ok (.iload_n 1, 1) := by decide +kernel
theorem dX4_startOf_5 : decode cX4_startOf 5 = .ok (.iaload, 1) := by decide +kernel
theorem dX4_startOf_6 : decode cX4_startOf 6 = .ok (.ireturn, 1) := by decide +kernel
theorem dX4_handlesOf_0 : decode cX4_handlesOf 0 = .ok (.aload_n 0, 1) := by decide +kernel
theorem dX4_handlesOf_1 : decode cX4_handlesOf 1 = .ok (.getfield 24, 3) := by decide +kernel
theorem dX4_handlesOf_4 : decode cX4_handlesOf 4 = .ok (.iload_n 1, 1) := by decide +kernel
theorem dX4_handlesOf_5 : decode cX4_handlesOf 5 = .ok (.laload, 1) := by decide +kernel
theorem dX4_handlesOf_6 : decode cX4_handlesOf 6 = .ok (.lreturn, 1) := by decide +kernel
theorem dX4_passersOf_0 : decode cX4_passersOf 0 = .ok (.aload_n 0, 1) := by decide +kernel
theorem dX4_passersOf_1 : decode cX4_passersOf 1 = .ok (.getfield 28, 3) := by decide +kernel
theorem dX4_passersOf_4 : decode cX4_passersOf 4 = .ok (.iload_n 1, 1) := by decide +kernel
theorem dX4_passersOf_5 : decode cX4_passersOf 5 = .ok (.laload, 1) := by decide +kernel
theorem dX4_passersOf_6 : decode cX4_passersOf 6 = .ok (.lreturn, 1) := by decide +kernel
theorem dX4_plainOnes_0 : decode cX4_plainOnes 0 = .ok (.aload_n 0, 1) := by decide +kernel
theorem dX4_plainOnes_1 : decode cX4_plainOnes 1 = .ok (.getfield 45, 3) := by decide +kernel
theorem dX4_plainOnes_4 : decode cX4_plainOnes 4 = .ok (.lreturn, 1) := by decide +kernel
theorem dX4_isHandle_0 : decode cX4_isHandle 0 = .ok (.aload_n 0, 1) := by decide +kernel
theorem dX4_isHandle_1 : decode cX4_isHandle 1 = .ok (.getfield 15, 3) := by decide +kernel
theorem dX4_isHandle_4 : decode cX4_isHandle 4 = .ok (.iload_n 1, 1) := by decide +kernel
theorem dX4_isHandle_5 : decode cX4_isHandle 5 = .ok (.iaload, 1) := by decide +kernel
theorem dX4_isHandle_6 : decode cX4_isHandle 6 = .ok (.iconst 1, 1) := by decide +kernel
theorem dX4_isHandle_7 : decode cX4_isHandle 7 = .ok (.if_icmp .eq 17, 3) := by decide +kernel
theorem dX4_isHandle_10 : decode cX4_isHandle 10 = .ok (.aload_n 0, 1) := by decide +kernel
theorem dX4_isHandle_11 : decode cX4_isHandle 11 = .ok (.getfield 15, 3) := by decide +kernel
theorem dX4_isHandle_14 : decode cX4_isHandle 14 = .ok (.iload_n 1, 1) := by decide +kernel
theorem dX4_isHandle_15 : decode cX4_isHandle 15 = .ok (.iaload, 1) := by decide +kernel
theorem dX4_isHandle_16 : decode cX4_isHandle 16 = .ok (.iconst 4, 1) := by decide +kernel
theorem dX4_isHandle_17 : decode cX4_isHandle 17 = .ok (.if_icmp .eq 7, 3) := by decide +kernel
theorem dX4_isHandle_20 : decode cX4_isHandle 20 = .ok (.iconst 1, 1) := by decide +kernel
theorem dX4_isHandle_21 : decode cX4_isHandle 21 = .ok (.goto 4, 3) := by decide +kernel
theorem dX4_isHandle_24 : decode cX4_isHandle 24 = .ok (.iconst 0, 1) := by decide +kernel
theorem dX4_isHandle_25 : decode cX4_isHandle 25 = .ok (.ireturn, 1) := by decide +kernel
theorem dX4_roots_0 : decode cX4_roots 0 = .ok (.aload_n 0, 1) := by decide +kernel
theorem dX4_roots_1 : decode cX4_roots 1 = .ok (.getfield 49, 3) := by decide +kernel
theorem dX4_roots_4 : decode cX4_roots 4 = .ok (.lreturn, 1) := by decide +kernel
set_option maxRecDepth 20000 in
theorem ggX4_isRoot_X0_has : GoodIn wsX4_isRoot wsX0_has := goodIn_r _ [5] rfl (by decide +kernel)
set_option maxRecDepth 20000 in
theorem gX4_isRoot_X0_has : GoodIn wsX4_isRoot (va_wsS RX4 52 yX0_has wsX0_has) := goodIn_app (goodIn_of _ (by decide +kernel)) ggX4_isRoot_X0_has
theorem dX4_isRoot_0 : decode cX4_isRoot 0 = .ok (.aload_n 0, 1) := by decide +kernel
theorem dX4_isRoot_1 : decode cX4_isRoot 1 = .ok (.getfield 49, 3) := by decide +kernel
theorem dX4_isRoot_4 : decode cX4_isRoot 4 = .ok (.iload_n 1, 1) := by decide +kernel
theorem dX4_isRoot_5 : decode cX4_isRoot 5 = .ok (.invokestatic 52, 3) := by decide +kernel
theorem dX4_isRoot_8 : decode cX4_isRoot 8 = .ok (.ireturn, 1) := by decide +kernel
theorem dX4_turnRoot_0 : decode cX4_turnRoot 0 = .ok (.aload_n 0, 1) := by decide +kernel
theorem dX4_turnRoot_1 : decode cX4_turnRoot 1 = .ok (.dup, 1) := by decide +kernel
theorem dX4_turnRoot_2 : decode cX4_turnRoot 2 = .ok (.getfield 49, 3) := by decide +kernel
theorem dX4_turnRoot_5 : decode cX4_turnRoot 5 = .ok (.lconst 1, 1) := by decide +kernel
theorem dX4_turnRoot_6 : decode cX4_turnRoot 6 = .ok (.iload_n 1, 1) := by decide +kernel
theorem dX4_turnRoot_7 : decode cX4_turnRoot 7 = .ok (.lshl, 1) := by decide +kernel
theorem dX4_turnRoot_8 : decode cX4_turnRoot 8 = .ok (.lxor, 1) := by decide +kernel
theorem dX4_turnRoot_9 : decode cX4_turnRoot 9 = .ok (.putfield 49, 3) := by decide +kernel
theorem dX4_turnRoot_12 : decode cX4_turnRoot 12 = .ok (.return_, 1) := by decide +kernel
set_option maxRecDepth 20000 in
theorem ggX4_add_X4_addNamed : GoodIn wsX4_add wsX4_addNamed := goodIn_r _ [9, 10, 3, 11, 12, 13, 14, 15, 16, 17, 8, 18, 19, 20, 21, 22, 23, 24, 25, 26, 27, 28, 29, 30, 31, 32, 33] rfl (by decide +kernel)
set_option maxRecDepth 20000 in
theorem gX4_add_X4_addNamed : GoodIn wsX4_add (wsV RX4 58 RX4 yX4_addNamed wsX4_addNamed) := goodIn_app (goodIn_of _ (by decide +kernel)) ggX4_add_X4_addNamed
theorem dX4_add_0 : decode cX4_add 0 = .ok (.aload_n 0, 1) := by decide +kernel
theorem dX4_add_1 : decode cX4_add 1 = .ok (.getfield 41, 3) := by decide +kernel
theorem dX4_add_4 : decode cX4_add 4 = .ok (.istore 4, 2) := by decide +kernel
theorem dX4_add_6 : decode cX4_add 6 = .ok (.aload_n 0, 1) := by decide +kernel
theorem dX4_add_7 : decode cX4_add 7 = .ok (.getfield 9, 3) := by decide +kernel
theorem dX4_add_10 : decode cX4_add 10 = .ok (.iload 4, 2) := by decide +kernel
theorem dX4_add_12 : decode cX4_add 12 = .ok (.iload_n 1, 1) := by decide +kernel
theorem dX4_add_13 : decode cX4_add 13 = .ok (.iastore, 1) := by decide +kernel
theorem dX4_add_14 : decode cX4_add 14 = .ok (.aload_n 0, 1) := by decide +kernel
theorem dX4_add_15 : decode cX4_add 15 = .ok (.getfield 15, 3) := by decide +kernel
theorem dX4_add_18 : decode cX4_add 18 = .ok (.iload 4, 2) := by decide +kernel
theorem dX4_add_20 : decode cX4_add 20 = .ok (.iload_n 3, 1) := by decide +kernel
theorem dX4_add_21 : decode cX4_add 21 = .ok (.iastore, 1) := by decide +kernel
theorem dX4_add_22 : decode cX4_add 22 = .ok (.aload_n 0, 1) := by decide +kernel
theorem dX4_add_23 : decode cX4_add 23 = .ok (.dup, 1) := by decide +kernel
theorem dX4_add_24 : decode cX4_add 24 = .ok (.getfield 41, 3) := by decide +kernel
theorem dX4_add_27 : decode cX4_add 27 = .ok (.iconst 1, 1) := by decide +kernel
theorem dX4_add_28 : decode cX4_add 28 = .ok (.iadd, 1) := by decide +kernel
theorem dX4_add_29 : decode cX4_add 29 = .ok (.putfield 41, 3) := by decide +kernel
theorem dX4_add_32 : decode cX4_add 32 = .ok (.iload_n 3, 1) := by decide +kernel
theorem dX4_add_33 : decode cX4_add 33 = .ok (.iconst 4, 1) := by decide +kernel
theorem dX4_add_34 : decode cX4_add 34 = .ok (.if_icmp .ne 14, 3) := by decide +kernel
theorem dX4_add_37 : decode cX4_add 37 = .ok (.aload_n 0, 1) := by decide +kernel
theorem dX4_add_38 : decode cX4_add 38 = .ok (.getfield 21, 3) := by decide +kernel
theorem dX4_add_41 : decode cX4_add 41 = .ok (.iload_n 1, 1) := by decide +kernel
theorem dX4_add_42 : decode cX4_add 42 = .ok (.iload 4, 2) := by decide +kernel
theorem dX4_add_44 : decode cX4_add 44 = .ok (.iastore, 1) := by decide +kernel
theorem dX4_add_45 : decode cX4_add 45 = .ok (.goto 11, 3) := by decide +kernel
theorem dX4_add_48 : decode cX4_add 48 = .ok (.aload_n 0, 1) := by decide +kernel
theorem dX4_add_49 : decode cX4_add 49 = .ok (.iload 4, 2) := by decide +kernel
theorem dX4_add_51 : decode cX4_add 51 = .ok (.iload_n 1, 1) := by decide +kernel
theorem dX4_add_52 : decode cX4_add 52 = .ok (.iload_n 2, 1) := by decide +kernel
theorem dX4_add_53 : decode cX4_add 53 = .ok (.invokevirtual 58, 3) := by decide +kernel
theorem dX4_add_56 : decode cX4_add 56 = .ok (.iload 4, 2) := by decide +kernel
theorem dX4_add_58 : decode cX4_add 58 = .ok (.ireturn, 1) := by decide +kernel
set_option maxRecDepth 20000 in
theorem ggX4_addNamed_X4_isHandle : GoodIn wsX4_addNamed wsX4_isHandle := goodIn_r _ [11, 2, 16, 17, 18, 19, 20, 21, 22, 23, 24, 25, 26] rfl (by decide +kernel)
set_option maxRecDepth 20000 in
theorem gX4_addNamed_X4_isHandle : GoodIn wsX4_addNamed (wsV RX4 62 RX4 yX4_isHandle wsX4_isHandle) := goodIn_app (goodIn_of _ (by decide +kernel)) ggX4_addNamed_X4_isHandle
set_option maxRecDepth 20000 in
theorem ggX4_addNamed_X0_with : GoodIn wsX4_addNamed wsX0_with := goodIn_r _ [15] rfl (by decide +kernel)
set_option maxRecDepth 20000 in
theorem gX4_addNamed_X0_with : GoodIn wsX4_addNamed (va_wsS RX4 66 yX0_with wsX0_with) := goodIn_app (goodIn_of _ (by decide +kernel)) ggX4_addNamed_X0_with
theorem dX4_addNamed_0 : decode cX4_addNamed 0 = .ok (.aload_n 0, 1) := by decide +kernel
theorem dX4_addNamed_1 : decode cX4_addNamed 1 = .ok (.getfield 18, 3) := by decide +kernel
theorem dX4_addNamed_4 : decode cX4_addNamed 4 = .ok (.iload_n 2, 1) := by decide +kernel
theorem dX4_addNamed_5 : decode cX4_addNamed 5 = .ok (.bipush 10, 2) := by decide +kernel
theorem dX4_addNamed_7 : decode cX4_addNamed 7 = .ok (.imul, 1) := by decide +kernel
theorem dX4_addNamed_8 : decode cX4_addNamed 8 = .ok (.iload_n 3, 1) := by decide +kernel
theorem dX4_addNamed_9 : decode cX4_addNamed 9 = .ok (.iadd, 1) := by decide +kernel
theorem dX4_addNamed_10 : decode cX4_addNamed 10 = .ok (.iload_n 1, 1) := by decide +kernel
theorem dX4_addNamed_11 : decode cX4_addNamed 11 = .ok (.iastore, 1) := by decide +kernel
theorem dX4_addNamed_12 : decode cX4_addNamed 12 = .ok (.aload_n 0, 1) := by decide +kernel
theorem dX4_addNamed_13 : decode cX4_addNamed 13 = .ok (.getfield 15, 3) := by decide +kernel
theorem dX4_addNamed_16 : decode cX4_addNamed 16 = .ok (.iload_n 1, 1) := by decide +kernel
theorem dX4_addNamed_17 : decode cX4_addNamed 17 = .ok (.iaload, 1) := by decide +kernel
theorem dX4_addNamed_18 : decode cX4_addNamed 18 = .ok (.istore 4, 2) := by decide +kernel
theorem dX4_addNamed_20 : decode cX4_addNamed 20 = .ok (.aload_n 0, 1) := by decide +kernel
theorem dX4_addNamed_21 : decode cX4_addNamed 21 = .ok (.iload_n 1, 1) := by decide +kernel
theorem dX4_addNamed_22 : decode cX4_addNamed 22 = .ok (.invokevirtual 62, 3) := by decide +kernel
theorem dX4_addNamed_25 : decode cX4_addNamed 25 = .ok (.ifCond .eq 19, 3) := by decide +kernel
theorem dX4_addNamed_28 : decode cX4_addNamed 28 = .ok (.aload_n 0, 1) := by decide +kernel
theorem dX4_addNamed_29 : decode cX4_addNamed 29 = .ok (.getfield 24, 3) := by decide +kernel
theorem dX4_addNamed_32 : decode cX4_addNamed 32 = .ok (.iload_n 3, 1) := by decide +kernel
theorem dX4_addNamed_33 : decode cX4_addNamed 33 = .ok (.aload_n 0, 1) := by decide +kernel
theorem dX4_addNamed_34 : decode cX4_addNamed 34 = .ok (.getfield 24, 3) := by decide +kernel
theorem dX4_addNamed_37 : decode cX4_addNamed 37 = .ok (.iload_n 3, 1) := by decide +kernel
theorem dX4_addNamed_38 : decode cX4_addNamed 38 = .ok (.laload, 1) := by decide +kernel
theorem dX4_addNamed_39 : decode cX4_addNamed 39 = .ok (.iload_n 1, 1) := by decide +kernel
theorem dX4_addNamed_40 : decode cX4_addNamed 40 = .ok (.invokestatic 66, 3) := by decide +kernel
theorem dX4_addNamed_43 : decode cX4_addNamed 43 = .ok (.lastore, 1) := by decide +kernel
theorem dX4_addNamed_44 : decode cX4_addNamed 44 = .ok (.iload 4, 2) := by decide +kernel
theorem dX4_addNamed_46 : decode cX4_addNamed 46 = .ok (.ifCond .eq 9, 3) := by decide +kernel
theorem dX4_addNamed_49 : decode cX4_addNamed 49 = .ok (.iload 4, 2) := by decide +kernel
theorem dX4_addNamed_51 : decode cX4_addNamed 51 = .ok (.iconst 1, 1) := by decide +kernel
theorem dX4_addNamed_52 : decode cX4_addNamed 52 = .ok (.if_icmp .ne 19, 3) := by decide +kernel
theorem dX4_addNamed_55 : decode cX4_addNamed 55 = .ok (.aload_n 0, 1) := by decide +kernel
theorem dX4_addNamed_56 : decode cX4_addNamed 56 = .ok (.getfield 28, 3) := by decide +kernel
theorem dX4_addNamed_59 : decode cX4_addNamed 59 = .ok (.iload_n 3, 1) := by decide +kernel
theorem dX4_addNamed_60 : decode cX4_addNamed 60 = .ok (.aload_n 0, 1) := by decide +kernel
theorem dX4_addNamed_61 : decode cX4_addNamed 61 = .ok (.getfield 28, 3) := by decide +kernel
theorem dX4_addNamed_64 : decode cX4_addNamed 64 = .ok (.iload_n 3, 1) := by decide +kernel
theorem dX4_addNamed_65 : decode cX4_addNamed 65 = .ok (.laload, 1) := by decide +kernel
theorem dX4_addNamed_66 : decode cX4_addNamed 66 = .ok (.iload_n 2, 1) := by decide +kernel
theorem dX4_addNamed_67 : decode cX4_addNamed 67 = .ok (.invokestatic 66, 3) := by decide +kernel
theorem dX4_addNamed_70 : decode cX4_addNamed 70 = .ok (.lastore, 1) := by decide +kernel
theorem dX4_addNamed_71 : decode cX4_addNamed 71 = .ok (.iload 4, 2) := by decide +kernel
theorem dX4_addNamed_73 : decode cX4_addNamed 73 = .ok (.ifCond .ne 27, 3) := by decide +kernel
theorem dX4_addNamed_76 : decode cX4_addNamed 76 = .ok (.aload_n 0, 1) := by decide +kernel
theorem dX4_addNamed_77 : decode cX4_addNamed 77 = .ok (.aload_n 0, 1) := by decide +kernel
theorem dX4_addNamed_78 : decode cX4_addNamed 78 = .ok (.getfield 45, 3) := by decide +kernel
theorem dX4_addNamed_81 : decode cX4_addNamed 81 = .ok (.iload_n 1, 1) := by decide +kernel
theorem dX4_addNamed_82 : decode cX4_addNamed 82 = .ok (.invokestatic 66, 3) := by decide +kernel
theorem dX4_addNamed_85 : decode cX4_addNamed 85 = .ok (.putfield 45, 3) := by decide +kernel
theorem dX4_addNamed_88 : decode cX4_addNamed 88 = .ok (.aload_n 0, 1) := by decide +kernel
theorem dX4_addNamed_89 : decode cX4_addNamed 89 = .ok (.aload_n 0, 1) := by decide +kernel
theorem dX4_addNamed_90 : decode cX4_addNamed 90 = .ok (.getfield 70, 3) := by decide +kernel
theorem dX4_addNamed_93 : decode cX4_addNamed 93 = .ok (.iload_n 2, 1) := by decide +kernel
theorem dX4_addNamed_94 : decode cX4_addNamed 94 = .ok (.invokestatic 66, 3) := by decide +kernel
theorem dX4_addNamed_97 : decode cX4_addNamed 97 = .ok (.putfield 70, 3) := by decide +kernel
theorem dX4_addNamed_100 : decode cX4_addNamed 100 = .ok (.return_, 1) := by decide +kernel
set_option maxRecDepth 20000 in
theorem ggX4_facesBegunWith_X6_isFace : GoodIn wsX4_facesBegunWith wsX6_isFace := goodIn_r _ [7, 8, 26, 27, 28, 29, 30, 31] rfl (by decide +kernel)
set_option maxRecDepth 20000 in
theorem gX4_facesBegunWith_X6_isFace : GoodIn wsX4_facesBegunWith (wsV RX4 73 RX6 yX6_isFace wsX6_isFace) := goodIn_app (goodIn_of _ (by decide +kernel)) ggX4_facesBegunWith_X6_isFace
set_option maxRecDepth 20000 in
theorem ggX4_facesBegunWith_X6_facesAbove : GoodIn wsX4_facesBegunWith wsX6_facesAbove := goodIn_r _ [12, 13, 14, 26, 27, 28, 29, 30, 31] rfl (by decide +kernel)
set_option maxRecDepth 20000 in
theorem gX4_facesBegunWith_X6_facesAbove : GoodIn wsX4_facesBegunWith (wsV RX4 78 RX6 yX6_facesAbove wsX6_facesAbove) := goodIn_app (goodIn_of _ (by decide +kernel)) ggX4_facesBegunWith_X6_facesAbove
theorem dX4_facesBegunWith_0 : decode cX4_facesBegunWith 0 = .ok (.aload_n 0, 1) := by decide +kernel
theorem dX4_facesBegunWith_1 : decode cX4_facesBegunWith 1 = .ok (.getfield 31, 3) := by decide +kernel
theorem dX4_facesBegunWith_4 : decode cX4_facesBegunWith 4 = .ok (.iload_n 1, 1) := by decide +kernel
theorem dX4_facesBegunWith_5 : decode cX4_facesBegunWith 5 = .ok (.invokevirtual 73, 3) := by decide +kernel
theorem dX4_facesBegunWith_8 : decode cX4_facesBegunWith 8 = .ok (.ifCond .eq 7, 3) := by decide +kernel
theorem dX4_facesBegunWith_11 : decode cX4_facesBegunWith 11 = .ok (.lconst 0, 1) := by decide +kernel
theorem dX4_facesBegunWith_12 : decode cX4_facesBegunWith 12 = .ok (.goto 16, 3) := by decide +kernel
theorem dX4_facesBegunWith_15 : decode cX4_facesBegunWith 15 = .ok (.aload_n 0, 1) := by decide +kernel
theorem dX4_facesBegunWith_16 : decode cX4_facesBegunWith 16 = .ok (.getfield 31, 3) := by decide +kernel
theorem dX4_facesBegunWith_19 : decode cX4_facesBegunWith 19 = .ok (.iload_n 1, 1) := by decide +kernel
theorem dX4_facesBegunWith_20 : decode cX4_facesBegunWith 20 = .ok (.invokevirtual 78, 3) := by decide +kernel
theorem dX4_facesBegunWith_23 : decode cX4_facesBegunWith 23 = .ok (.aload_n 0, 1) := by decide +kernel
theorem dX4_facesBegunWith_24 : decode cX4_facesBegunWith 24 = .ok (.getfield 70, 3) := by decide +kernel
theorem dX4_facesBegunWith_27 : decode cX4_facesBegunWith 27 = .ok (.land, 1) := by decide +kernel
theorem dX4_facesBegunWith_28 : decode cX4_facesBegunWith 28 = .ok (.lreturn, 1) := by decide +kernel
theorem dX5_init_0 : decode cX5_init 0 = .ok (.aload_n 0, 1) := by decide +kernel
theorem dX5_init_1 : decode cX5_init 1 = .ok (.invokespecial 3, 3) := by decide +kernel
theorem dX5_init_4 : decode cX5_init 4 = .ok (.aload_n 0, 1) := by decide +kernel
theorem dX5_init_5 : decode cX5_init 5 = .ok (.sipush 160, 3) := by decide +kernel
theorem dX5_init_8 : decode cX5_init 8 = .ok (.newarray .int, 2) := by decide +kernel
theorem dX5_init_10 : decode cX5_init 10 = .ok (.putfield 9, 3) := by decide +kernel
theorem dX5_init_13 : decode cX5_init 13 = .ok (.aload_n 0, 1) := by decide +kernel
theorem dX5_init_14 : decode cX5_init 14 = .ok (.sipush 160, 3) := by decide +kernel
theorem dX5_init_17 : decode cX5_init 17 = .ok (.newarray .int, 2) := by decide +kernel
theorem dX5_init_19 : decode cX5_init 19 = .ok (.putfield 15, 3) := by decide +kernel
theorem dX5_init_22 : decode cX5_init 22 = .ok (.aload_n 0, 1) := by decide +kernel
theorem dX5_init_23 : decode cX5_init 23 = .ok (.sipush 160, 3) := by decide +kernel
theorem dX5_init_26 : decode cX5_init 26 = .ok (.newarray .int, 2) := by decide +kernel
theorem dX5_init_28 : decode cX5_init 28 = .ok (.putfield 18, 3) := by decide +kernel
theorem dX5_init_31 : decode cX5_init 31 = .ok (.aload_n 0, 1) := by decide +kernel
theorem dX5_init_32 : decode cX5_init 32 = .ok (.bipush 48, 2) := by decide +kernel
theorem dX5_init_34 : decode cX5_init 34 = .ok (.newarray .int, 2) := by decide +kernel
theorem dX5_init_36 : decode cX5_init 36 = .ok (.putfield 21, 3) := by decide +kernel
theorem dX5_init_39 : decode cX5_init 39 = .ok (.aload_n 0, 1) := by decide +kernel
theorem dX5_init_40 : decode cX5_init 40 = .ok (.sipush 1152, 3) := by decide +kernel
theorem dX5_init_43 : decode cX5_init 43 = .ok (.newarray .int, 2) := by decide +kernel
theorem dX5_init_45 : decode cX5_init 45 = .ok (.putfield 24, 3) := by decide +kernel
theorem dX5_init_48 : decode cX5_init 48 = .ok (.return_, 1) := by decide +kernel
theorem dX5_size_0 : decode cX5_size 0 = .ok (.aload_n 0, 1) := by decide +kernel
theorem dX5_size_1 : decode cX5_size 1 = .ok (.getfield 27, 3) := by decide +kernel
theorem dX5_size_4 : decode cX5_size 4 = .ok (.ireturn, 1) := by decide +kernel
theorem dX5_sizeOf_0 : decode cX5_sizeOf 0 = .ok (.aload_n 0, 1) := by decide +kernel
theorem dX5_sizeOf_1 : decode cX5_sizeOf 1 = .ok (.getfield 21, 3) := by decide +kernel
theorem dX5_sizeOf_4 : decode cX5_sizeOf 4 = .ok (.iload_n 1, 1) := by decide +kernel
theorem dX5_sizeOf_5 : decode cX5_sizeOf 5 = .ok (.iaload, 1) := by decide +kernel
theorem dX5_sizeOf_6 : decode cX5_sizeOf 6 = .ok (.ireturn, 1) := by decide +kernel
theorem dX5_knows_0 : decode cX5_knows 0 = .ok (.iload_n 2, 1) := by decide +kernel
theorem dX5_knows_1 : decode cX5_knows 1 = .ok (.ifCond .lt 17, 3) := by decide +kernel
theorem dX5_knows_4 : decode cX5_knows 4 = .ok (.iload_n 2, 1) := by decide +kernel
theorem dX5_knows_5 : decode cX5_knows 5 = .ok (.aload_n 0, 1) := by decide +kernel
theorem dX5_knows_6 : decode cX5_knows 6 = .ok (.getfield 21, 3) := by decide +kernel
theorem dX5_knows_9 : decode cX5_knows 9 = .ok (.iload_n 1, 1) := by decide +kernel
theorem dX5_knows_10 : decode cX5_knows 10 = .ok (.iaload, 1) := by decide +kernel
theorem dX5_knows_11 : decode cX5_knows 11 = .ok (.if_icmp .ge 7, 3) := by decide +kernel
theorem dX5_knows_14 : decode cX5_knows 14 = .ok (.iconst 1, 1) := by decide +kernel
theorem dX5_knows_15 : decode cX5_knows 15 = .ok (.goto 4, 3) := by decide +kernel
theorem dX5_knows_18 : decode cX5_knows 18 = .ok (.iconst 0, 1) := by decide +kernel
theorem dX5_knows_19 : decode cX5_knows 19 = .ok (.ireturn, 1) := by decide +kernel
theorem dX5_at_0 : decode cX5_at 0 = .ok (.aload_n 0, 1) := by decide +kernel
theorem dX5_at_1 : decode cX5_at 1 = .ok (.getfield 24, 3) := by decide +kernel
theorem dX5_at_4 : decode cX5_at 4 = .ok (.iload_n 1, 1) := by decide +kernel
theorem dX5_at_5 : decode cX5_at 5 = .ok (.bipush 24, 2) := by decide +kernel
theorem dX5_at_7 : decode cX5_at 7 = .ok (.imul, 1) := by decide +kernel
theorem dX5_at_8 : decode cX5_at 8 = .ok (.iload_n 2, 1) := by decide +kernel
theorem dX5_at_9 : decode cX5_at 9 = .ok (.iadd, 1) := by decide +kernel
theorem dX5_at_10 : decode cX5_at 10 = .ok (.iaload, 1) := by decide +kernel
theorem dX5_at_11 : decode cX5_at 11 = .ok (.ireturn, 1) := by decide +kernel
theorem dX5_kindOf_0 : decode cX5_kindOf 0 = .ok (.aload_n 0, 1) := by decide +kernel
theorem dX5_kindOf_1 : decode cX5_kindOf 1 = .ok (.getfield 9, 3) := by decide +kernel
theorem dX5_kindOf_4 : decode cX5_kindOf 4 = .ok (.iload_n 1, 1) := by decide +kernel
theorem dX5_kindOf_5 : decode cX5_kindOf 5 = .ok (.iaload, 1) := by decide +kernel
theorem dX5_kindOf_6 : decode cX5_kindOf 6 = .ok (.ireturn, 1) := by decide +kernel
theorem dX5_a_0 : decode cX5_a 0 = .ok (.aload_n 0, 1) := by decide +kernel
theorem dX5_a_1 : decode cX5_a 1 = .ok (.getfield 15, 3) := by decide +kernel
theorem dX5_a_4 : decode cX5_a 4 = .ok (.iload_n 1, 1) := by decide +kernel
theorem dX5_a_5 : decode cX5_a 5 = .ok (.iaload, 1) := by decide +kernel
theorem dX5_a_6 : decode cX5_a 6 = .ok (.ireturn, 1) := by decide +kernel
theorem dX5_b_0 : decode cX5_b 0 = .ok (.aload_n 0, 1) := by decide +kernel
theorem dX5_b_1 : decode cX5_b 1 = .ok (.getfield 18, 3) := by decide +kernel
theorem dX5_b_4 : decode cX5_b 4 = .ok (.iload_n 1, 1) := by decide +kernel
theorem dX5_b_5 : decode cX5_b 5 = .ok (.iaload, 1) := by decide +kernel
theorem dX5_b_6 : decode cX5_b 6 = .ok (.ireturn, 1) := by decide +kernel
theorem dX5_add_0 : decode cX5_add 0 = .ok (.aload_n 0, 1) := by decide +kernel
theorem dX5_add_1 : decode cX5_add 1 = .ok (.getfield 21, 3) := by decide +kernel
theorem dX5_add_4 : decode cX5_add 4 = .ok (.iload_n 1, 1) := by decide +kernel
theorem dX5_add_5 : decode cX5_add 5 = .ok (.iaload, 1) := by decide +kernel
theorem dX5_add_6 : decode cX5_add 6 = .ok (.istore 5, 2) := by decide +kernel
theorem dX5_add_8 : decode cX5_add 8 = .ok (.aload_n 0, 1) := by decide +kernel
theorem dX5_add_9 : decode cX5_add 9 = .ok (.getfield 9, 3) := by decide +kernel
theorem dX5_add_12 : decode cX5_add 12 = .ok (.aload_n 0, 1) := by decide +kernel
theorem dX5_add_13 : decode cX5_add 13 = .ok (.getfield 27, 3) := by decide +kernel
theorem dX5_add_16 : decode cX5_add 16 = .ok (.iload_n 2, 1) := by decide +kernel
theorem dX5_add_17 : decode cX5_add 17 = .ok (.iastore, 1) := by decide +kernel
theorem dX5_add_18 : decode cX5_add 18 = .ok (.aload_n 0, 1) := by decide +kernel
theorem dX5_add_19 : decode cX5_add 19 = .ok (.getfield 15, 3) := by decide +kernel
theorem dX5_add_22 : decode cX5_add 22 = .ok (.aload_n 0, 1) := by decide +kernel
theorem dX5_add_23 : decode cX5_add 23 = .ok (.getfield 27, 3) := by decide +kernel
theorem dX5_add_26 : decode cX5_add 26 = .ok (.iload_n 3, 1) := by decide +kernel
theorem dX5_add_27 : decode cX5_add 27 = .ok (.iastore, 1) := by decide +kernel
theorem dX5_add_28 : decode cX5_add 28 = .ok (.aload_n 0, 1) := by decide +kernel
theorem dX5_add_29 : decode cX5_add 29 = .ok (.getfield 18, 3) := by decide +kernel
theorem dX5_add_32 : decode cX5_add 32 = .ok (.aload_n 0, 1) := by decide +kernel
theorem dX5_add_33 : decode cX5_add 33 = .ok (.getfield 27, 3) := by decide +kernel
theorem dX5_add_36 : decode cX5_add 36 = .ok (.iload 4, 2) := by decide +kernel
theorem dX5_add_38 : decode cX5_add 38 = .ok (.iastore, 1) := by decide +kernel
theorem dX5_add_39 : decode cX5_add 39 = .ok (.aload_n 0, 1) := by decide +kernel
theorem dX5_add_40 : decode cX5_add 40 = .ok (.getfield 24, 3) := by decide +kernel
theorem dX5_add_43 : decode cX5_add 43 = .ok (.iload_n 1, 1) := by decide +kernel
theorem dX5_add_44 : decode cX5_add 44 = .ok (.bipush 24, 2) := by decide +kernel
theorem dX5_add_46 : decode cX5_add 46 = .ok (.imul, 1) := by decide +kernel
theorem dX5_add_47 : decode cX5_add 47 = .ok (.iload 5, 2) := by decide +kernel
theorem dX5_add_49 : decode cX5_add 49 = .ok (.iadd, 1) := by decide +kernel
theorem dX5_add_50 : decode cX5_add 50 = .ok (.aload_n 0, 1) := by decide +kernel
theorem dX5_add_51 : decode cX5_add 51 = .ok (.getfield 27, 3) := by decide +kernel
theorem dX5_add_54 : decode cX5_add 54 = .ok (.iastore, 1) := by decide +kernel
theorem dX5_add_55 : decode cX5_add 55 = .ok (.aload_n 0, 1) := by decide +kernel
theorem dX5_add_56 : decode cX5_add 56 = .ok (.dup, 1) := by decide +kernel
theorem dX5_add_57 : decode cX5_add 57 = .ok (.getfield 27, 3) := by decide +kernel
theorem dX5_add_60 : decode cX5_add 60 = .ok (.iconst 1, 1) := by decide +kernel
theorem dX5_add_61 : decode cX5_add 61 = .ok (.iadd, 1) := by decide +kernel
theorem dX5_add_62 : decode cX5_add 62 = .ok (.putfield 27, 3) := by decide +kernel
theorem dX5_add_65 : decode cX5_add 65 = .ok (.aload_n 0, 1) := by decide +kernel
theorem dX5_add_66 : decode cX5_add 66 = .ok (.getfield 21, 3) := by decide +kernel
theorem dX5_add_69 : decode cX5_add 69 = .ok (.iload_n 1, 1) := by decide +kernel
theorem dX5_add_70 : decode cX5_add 70 = .ok (.dup2, 1) := by decide +kernel
theorem dX5_add_71 : decode cX5_add 71 = .ok (.iaload, 1) := by decide +kernel
theorem dX5_add_72 : decode cX5_add 72 = .ok (.iconst 1, 1) := by decide +kernel
theorem dX5_add_73 : decode cX5_add 73 = .ok (.iadd, 1) := by decide +kernel
theorem dX5_add_74 : decode cX5_add 74 = .ok (.iastore, 1) := by decide +kernel
theorem dX5_add_75 : decode cX5_add 75 = .ok (.iload 5, 2) := by decide +kernel
theorem dX5_add_77 : decode cX5_add 77 = .ok (.ireturn, 1) := by decide +kernel
theorem dX6_init_0 : decode cX6_init 0 = .ok (.aload_n 0, 1) := by decide +kernel
theorem dX6_init_1 : decode cX6_init 1 = .ok (.invokespecial 3, 3) := by decide +kernel
theorem dX6_init_4 : decode cX6_init 4 = .ok (.aload_n 0, 1) := by decide +kernel
theorem dX6_init_5 : decode cX6_init 5 = .ok (.bipush 16, 2) := by decide +kernel
theorem dX6_init_7 : decode cX6_init 7 = .ok (.newarray .int, 2) := by decide +kernel
theorem dX6_init_9 : decode cX6_init 9 = .ok (.putfield 9, 3) := by decide +kernel
theorem dX6_init_12 : decode cX6_init 12 = .ok (.aload_n 0, 1) := by decide +kernel
theorem dX6_init_13 : decode cX6_init 13 = .ok (.bipush 16, 2) := by decide +kernel
theorem dX6_init_15 : decode cX6_init 15 = .ok (.newarray .int, 2) := by decide +kernel
theorem dX6_init_17 : decode cX6_init 17 = .ok (.putfield 15, 3) := by decide +kernel
theorem dX6_init_20 : decode cX6_init 20 = .ok (.aload_n 0, 1) := by decide +kernel
theorem dX6_init_21 : decode cX6_init 21 = .ok (.bipush 16, 2) := by decide +kernel
theorem dX6_init_23 : decode cX6_init 23 = .ok (.newarray .long, 2) := by decide +kernel
theorem dX6_init_25 : decode cX6_init 25 = .ok (.putfield 18, 3) := by decide +kernel
theorem dX6_init_28 : decode cX6_init 28 = .ok (.aload_n 0, 1) := by decide +kernel
theorem dX6_init_29 : decode cX6_init 29 = .ok (.bipush 16, 2) := by decide +kernel
theorem dX6_init_31 : decode cX6_init 31 = .ok (.newarray .long, 2) := by decide +kernel
theorem dX6_init_33 : decode cX6_init 33 = .ok (.putfield 22, 3) := by decide +kernel
theorem dX6_init_36 : decode cX6_init 36 = .ok (.return_, 1) := by decide +kernel
theorem dX6_size_0 : decode cX6_size 0 = .ok (.aload_n 0, 1) := by decide +kernel
theorem dX6_size_1 : decode cX6_size 1 = .ok (.getfield 25, 3) := by decide +kernel
theorem dX6_size_4 : decode cX6_size 4 = .ok (.ireturn, 1) := by decide +kernel
theorem dX6_knows_0 : decode cX6_knows 0 = .ok (.iload_n 1, 1) := by decide +kernel
theorem dX6_knows_1 : decode cX6_knows 1 = .ok (.ifCond .lt 15, 3) := by decide +kernel
theorem dX6_knows_4 : decode cX6_knows 4 = .ok (.iload_n 1, 1) := by decide +kernel
theorem dX6_knows_5 : decode cX6_knows 5 = .ok (.aload_n 0, 1) := by decide +kernel
theorem dX6_knows_6 : decode cX6_knows 6 = .ok (.getfield 25, 3) := by decide +kernel
theorem dX6_knows_9 : decode cX6_knows 9 = .ok (.if_icmp .ge 7, 3) := by decide +kernel
theorem dX6_knows_12 : decode cX6_knows 12 = .ok (.iconst 1, 1) := by decide +kernel
theorem dX6_knows_13 : decode cX6_knows 13 = .ok (.goto 4, 3) := by decide +kernel
theorem dX6_knows_16 : decode cX6_knows 16 = .ok (.iconst 0, 1) := by decide +kernel
theorem dX6_knows_17 : decode cX6_knows 17 = .ok (.ireturn, 1) := by decide +kernel
theorem dX6_kindOf_0 : decode cX6_kindOf 0 = .ok (.aload_n 0, 1) := by decide +kernel
theorem dX6_kindOf_1 : decode cX6_kindOf 1 = .ok (.getfield 9, 3) := by decide +kernel
theorem dX6_kindOf_4 : decode cX6_kindOf 4 = .ok (.iload_n 1, 1) := by decide +kernel
theorem dX6_kindOf_5 : decode cX6_kindOf 5 = .ok (.iaload, 1) := by decide +kernel
theorem dX6_kindOf_6 : decode cX6_kindOf 6 = .ok (.ireturn, 1) := by decide +kernel
theorem dX6_isFace_0 : decode cX6_isFace 0 = .ok (.aload_n 0, 1) := by decide +kernel
theorem dX6_isFace_1 : decode cX6_isFace 1 = .ok (.getfield 9, 3) := by decide +kernel
theorem dX6_isFace_4 : decode cX6_isFace 4 = .ok (.iload_n 1, 1) := by decide +kernel
theorem dX6_isFace_5 : decode cX6_isFace 5 = .ok (.iaload, 1) := by decide +kernel
theorem dX6_isFace_6 : decode cX6_isFace 6 = .ok (.iconst 2, 1) := by decide +kernel
theorem dX6_isFace_7 : decode cX6_isFace 7 = .ok (.if_icmp .ne 7, 3) := by decide +kernel
theorem dX6_isFace_10 : decode cX6_isFace 10 = .ok (.iconst 1, 1) := by decide +kernel
theorem dX6_isFace_11 : decode cX6_isFace 11 = .ok (.goto 4, 3) := by decide +kernel
theorem dX6_isFace_14 : decode cX6_isFace 14 = .ok (.iconst 0, 1) := by decide +kernel
theorem dX6_isFace_15 : decode cX6_isFace 15 = .ok (.ireturn, 1) := by decide +kernel
theorem dX6_superOf_0 : decode cX6_superOf 0 = .ok (.aload_n 0, 1) := by decide +kernel
theorem dX6_superOf_1 : decode cX6_superOf 1 = .ok (.getfield 15, 3) := by decide +kernel
theorem dX6_superOf_4 : decode cX6_superOf 4 = .ok (.iload_n 1, 1) := by decide +kernel
theorem dX6_superOf_5 : decode cX6_superOf 5 = .ok (.iaload, 1) := by decide +kernel
theorem dX6_superOf_6 : decode cX6_superOf 6 = .ok (.ireturn, 1) := by decide +kernel
set_option maxRecDepth 20000 in
theorem ggX6_countFaces_J13_bitCount_95d88 : GoodIn wsX6_countFaces wsJ13_bitCount_95d88 := goodIn_r _ [5, 6, 7, 8] rfl (by decide +kernel)
set_option maxRecDepth 20000 in
theorem gX6_countFaces_J13_bitCount_95d88 : GoodIn wsX6_countFaces (va_wsS RX6 29 yJ13_bitCount_95d88 wsJ13_bitCount_95d88) := goodIn_app (goodIn_of _ (by decide +kernel)) ggX6_countFaces_J13_bitCount_95d88
theorem dX6_countFaces_0 : decode cX6_countFaces 0 = .ok (.aload_n 0, 1) := by decide +kernel
theorem dX6_countFaces_1 : decode cX6_countFaces 1 = .ok (.getfield 18, 3) := by decide +kernel
theorem dX6_countFaces_4 : decode cX6_countFaces 4 = .ok (.iload_n 1, 1) := by decide +kernel
theorem dX6_countFaces_5 : decode cX6_countFaces 5 = .ok (.laload, 1) := by decide +kernel
theorem dX6_countFaces_6 : decode cX6_countFaces 6 = .ok (.invokestatic 29, 3) := by decide +kernel
theorem dX6_countFaces_9 : decode cX6_countFaces 9 = .ok (.ireturn, 1) := by decide +kernel
set_option maxRecDepth 20000 in
theorem ggX6_hasFace_X0_has : GoodIn wsX6_hasFace wsX0_has := goodIn_r _ [5] rfl (by decide +kernel)
set_option maxRecDepth 20000 in
theorem gX6_hasFace_X0_has : GoodIn wsX6_hasFace (va_wsS RX6 35 yX0_has wsX0_has) := goodIn_app (goodIn_of _ (by decide +kernel)) ggX6_hasFace_X0_has
theorem dX6_hasFace_0 : decode cX6_hasFace 0 = .ok (.aload_n 0, 1) := by decide +kernel
theorem dX6_hasFace_1 : decode cX6_hasFace 1 = .ok (.getfield 18, 3) := by decide +kernel
theorem dX6_hasFace_4 : decode cX6_hasFace 4 = .ok (.iload_n 1, 1) := by decide +kernel
theorem dX6_hasFace_5 : decode cX6_hasFace 5 = .ok (.laload, 1) := by decide +kernel
theorem dX6_hasFace_6 : decode cX6_hasFace 6 = .ok (.iload_n 2, 1) := by decide +kernel
theorem dX6_hasFace_7 : decode cX6_hasFace 7 = .ok (.invokestatic 35, 3) := by decide +kernel
theorem dX6_hasFace_10 : decode cX6_hasFace 10 = .ok (.ireturn, 1) := by decide +kernel
theorem dX6_facesAbove_0 : decode cX6_facesAbove 0 = .ok (.aload_n 0, 1) := by decide +kernel
theorem dX6_facesAbove_1 : decode cX6_facesAbove 1 = .ok (.getfield 22, 3) := by decide +kernel
theorem dX6_facesAbove_4 : decode cX6_facesAbove 4 = .ok (.iload_n 1, 1) := by decide +kernel
theorem dX6_facesAbove_5 : decode cX6_facesAbove 5 = .ok (.laload, 1) := by decide +kernel
theorem dX6_facesAbove_6 : decode cX6_facesAbove 6 = .ok (.aload_n 0, 1) := by decide +kernel
theorem dX6_facesAbove_7 : decode cX6_facesAbove 7 = .ok (.getfield 41, 3) := by decide +kernel
theorem dX6_facesAbove_10 : decode cX6_facesAbove 10 = .ok (.land, 1) := by decide +kernel
theorem dX6_facesAbove_11 : decode cX6_facesAbove 11 = .ok (.lreturn, 1) := by decide +kernel
theorem dX6_above_0 : decode cX6_above 0 = .ok (.aload_n 0, 1) := by decide +kernel
theorem dX6_above_1 : decode cX6_above 1 = .ok (.getfield 22, 3) := by decide +kernel
theorem dX6_above_4 : decode cX6_above 4 = .ok (.iload_n 1, 1) := by decide +kernel
theorem dX6_above_5 : decode cX6_above 5 = .ok (.laload, 1) := by decide +kernel
theorem dX6_above_6 : decode cX6_above 6 = .ok (.lreturn, 1) := by decide +kernel
set_option maxRecDepth 20000 in
theorem ggX6_isUnder_X0_has : GoodIn wsX6_isUnder wsX0_has := goodIn_r _ [5] rfl (by decide +kernel)
set_option maxRecDepth 20000 in
theorem gX6_isUnder_X0_has : GoodIn wsX6_isUnder (va_wsS RX6 35 yX0_has wsX0_has) := goodIn_app (goodIn_of _ (by decide +kernel)) ggX6_isUnder_X0_has
theorem dX6_isUnder_0 : decode cX6_isUnder 0 = .ok (.iload_n 1, 1) := by decide +kernel
theorem dX6_isUnder_1 : decode cX6_isUnder 1 = .ok (.iload_n 2, 1) := by decide +kernel
theorem dX6_isUnder_2 : decode cX6_isUnder 2 = .ok (.if_icmp .eq 16, 3) := by decide +kernel
theorem dX6_isUnder_5 : decode cX6_isUnder 5 = .ok (.aload_n 0, 1) := by decide +kernel
theorem dX6_isUnder_6 : decode cX6_isUnder 6 = .ok (.getfield 22, 3) := by decide +kernel
theorem dX6_isUnder_9 : decode cX6_isUnder 9 = .ok (.iload_n 1, 1) := by decide +kernel
theorem dX6_isUnder_10 : decode cX6_isUnder 10 = .ok (.laload, 1) := by decide +kernel
theorem dX6_isUnder_11 : decode cX6_isUnder 11 = .ok (.iload_n 2, 1) := by decide +kernel
theorem dX6_isUnder_12 : decode cX6_isUnder 12 = .ok (.invokestatic 35, 3) := by decide +kernel
theorem dX6_isUnder_15 : decode cX6_isUnder 15 = .ok (.ifCond .eq 7, 3) := by decide +kernel
theorem dX6_isUnder_18 : decode cX6_isUnder 18 = .ok (.iconst 1, 1) := by decide +kernel
theorem dX6_isUnder_19 : decode cX6_isUnder 19 = .ok (.goto 4, 3) := by decide +kernel
theorem dX6_isUnder_22 : decode cX6_isUnder 22 = .ok (.iconst 0, 1) := by decide +kernel
theorem dX6_isUnder_23 : decode cX6_isUnder 23 = .ok (.ireturn, 1) := by decide +kernel
set_option maxRecDepth 20000 in
theorem ggX6_isNextAbove_X6_hasFace : GoodIn wsX6_isNextAbove wsX6_hasFace := goodIn_r _ [6, 7, 8, 9, 10, 11, 12, 13, 14, 15, 16, 17] rfl (by decide +kernel)
set_option maxRecDepth 20000 in
theorem gX6_isNextAbove_X6_hasFace : GoodIn wsX6_isNextAbove (wsV RX6 45 RX6 yX6_hasFace wsX6_hasFace) := goodIn_app (goodIn_of _ (by decide +kernel)) ggX6_isNextAbove_X6_hasFace
theorem dX6_isNextAbove_0 : decode cX6_isNextAbove 0 = .ok (.aload_n 0, 1) := by decide +kernel
theorem dX6_isNextAbove_1 : decode cX6_isNextAbove 1 = .ok (.getfield 15, 3) := by decide +kernel
theorem dX6_isNextAbove_4 : decode cX6_isNextAbove 4 = .ok (.iload_n 2, 1) := by decide +kernel
theorem dX6_isNextAbove_5 : decode cX6_isNextAbove 5 = .ok (.iaload, 1) := by decide +kernel
theorem dX6_isNextAbove_6 : decode cX6_isNextAbove 6 = .ok (.iload_n 1, 1) := by decide +kernel
theorem dX6_isNextAbove_7 : decode cX6_isNextAbove 7 = .ok (.if_icmp .eq 12, 3) := by decide +kernel
theorem dX6_isNextAbove_10 : decode cX6_isNextAbove 10 = .ok (.aload_n 0, 1) := by decide +kernel
theorem dX6_isNextAbove_11 : decode cX6_isNextAbove 11 = .ok (.iload_n 2, 1) := by decide +kernel
theorem dX6_isNextAbove_12 : decode cX6_isNextAbove 12 = .ok (.iload_n 1, 1) := by decide +kernel
theorem dX6_isNextAbove_13 : decode cX6_isNextAbove 13 = .ok (.invokevirtual 45, 3) := by decide +kernel
theorem dX6_isNextAbove_16 : decode cX6_isNextAbove 16 = .ok (.ifCond .eq 7, 3) := by decide +kernel
theorem dX6_isNextAbove_19 : decode cX6_isNextAbove 19 = .ok (.iconst 1, 1) := by decide +kernel
theorem dX6_isNextAbove_20 : decode cX6_isNextAbove 20 = .ok (.goto 4, 3) := by decide +kernel
theorem dX6_isNextAbove_23 : decode cX6_isNextAbove 23 = .ok (.iconst 0, 1) := by decide +kernel
theorem dX6_isNextAbove_24 : decode cX6_isNextAbove 24 = .ok (.ireturn, 1) := by decide +kernel
set_option maxRecDepth 20000 in
theorem ggX6_add_X0_with : GoodIn wsX6_add wsX0_with := goodIn_r _ [8] rfl (by decide +kernel)
set_option maxRecDepth 20000 in
theorem gX6_add_X0_with : GoodIn wsX6_add (va_wsS RX6 49 yX0_with wsX0_with) := goodIn_app (goodIn_of _ (by decide +kernel)) ggX6_add_X0_with
set_option maxRecDepth 20000 in
theorem ggX6_add_X6_tellAbove : GoodIn wsX6_add wsX6_tellAbove := goodIn_r _ [13, 1, 14, 3, 15, 5, 6, 7, 8, 16, 17, 18, 19, 20, 21, 22, 23, 24] rfl (by decide +kernel)
set_option maxRecDepth 20000 in
theorem gX6_add_X6_tellAbove : GoodIn wsX6_add (wsV RX6 53 RX6 yX6_tellAbove wsX6_tellAbove) := goodIn_app (goodIn_of _ (by decide +kernel)) ggX6_add_X6_tellAbove
theorem dX6_add_0 : decode cX6_add 0 = .ok (.aload_n 0, 1) := by decide +kernel
theorem dX6_add_1 : decode cX6_add 1 = .ok (.getfield 25, 3) := by decide +kernel
theorem dX6_add_4 : decode cX6_add 4 = .ok (.istore_n 3, 1) := by decide +kernel
theorem dX6_add_5 : decode cX6_add 5 = .ok (.aload_n 0, 1) := by decide +kernel
theorem dX6_add_6 : decode cX6_add 6 = .ok (.getfield 9, 3) := by decide +kernel
theorem dX6_add_9 : decode cX6_add 9 = .ok (.iload_n 3, 1) := by decide +kernel
theorem dX6_add_10 : decode cX6_add 10 = .ok (.iload_n 1, 1) := by decide +kernel
theorem dX6_add_11 : decode cX6_add 11 = .ok (.iastore, 1) := by decide +kernel
theorem dX6_add_12 : decode cX6_add 12 = .ok (.aload_n 0, 1) := by decide +kernel
theorem dX6_add_13 : decode cX6_add 13 = .ok (.getfield 15, 3) := by decide +kernel
theorem dX6_add_16 : decode cX6_add 16 = .ok (.iload_n 3, 1) := by decide +kernel
theorem dX6_add_17 : decode cX6_add 17 = .ok (.iload_n 2, 1) := by decide +kernel
theorem dX6_add_18 : decode cX6_add 18 = .ok (.iastore, 1) := by decide +kernel
theorem dX6_add_19 : decode cX6_add 19 = .ok (.iload_n 1, 1) := by decide +kernel
theorem dX6_add_20 : decode cX6_add 20 = .ok (.iconst 2, 1) := by decide +kernel
theorem dX6_add_21 : decode cX6_add 21 = .ok (.if_icmp .ne 15, 3) := by decide +kernel
theorem dX6_add_24 : decode cX6_add 24 = .ok (.aload_n 0, 1) := by decide +kernel
theorem dX6_add_25 : decode cX6_add 25 = .ok (.aload_n 0, 1) := by decide +kernel
theorem dX6_add_26 : decode cX6_add 26 = .ok (.getfield 41, 3) := by decide +kernel
theorem dX6_add_29 : decode cX6_add 29 = .ok (.iload_n 3, 1) := by decide +kernel
theorem dX6_add_30 : decode cX6_add 30 = .ok (.invokestatic 49, 3) := by decide +kernel
theorem dX6_add_33 : decode cX6_add 33 = .ok (.putfield 41, 3) := by decide +kernel
theorem dX6_add_36 : decode cX6_add 36 = .ok (.aload_n 0, 1) := by decide +kernel
theorem dX6_add_37 : decode cX6_add 37 = .ok (.dup, 1) := by decide +kernel
theorem dX6_add_38 : decode cX6_add 38 = .ok (.getfield 25, 3) := by decide +kernel
theorem dX6_add_41 : decode cX6_add 41 = .ok (.iconst 1, 1) := by decide +kernel
theorem dX6_add_42 : decode cX6_add 42 = .ok (.iadd, 1) := by decide +kernel
theorem dX6_add_43 : decode cX6_add 43 = .ok (.putfield 25, 3) := by decide +kernel
theorem dX6_add_46 : decode cX6_add 46 = .ok (.aload_n 0, 1) := by decide +kernel
theorem dX6_add_47 : decode cX6_add 47 = .ok (.invokevirtual 53, 3) := by decide +kernel
theorem dX6_add_50 : decode cX6_add 50 = .ok (.iload_n 3, 1) := by decide +kernel
theorem dX6_add_51 : decode cX6_add 51 = .ok (.ireturn, 1) := by decide +kernel
set_option maxRecDepth 20000 in
theorem ggX6_addFace_X0_with : GoodIn wsX6_addFace wsX0_with := goodIn_r _ [5] rfl (by decide +kernel)
set_option maxRecDepth 20000 in
theorem gX6_addFace_X0_with : GoodIn wsX6_addFace (va_wsS RX6 49 yX0_with wsX0_with) := goodIn_app (goodIn_of _ (by decide +kernel)) ggX6_addFace_X0_with
set_option maxRecDepth 20000 in
theorem ggX6_addFace_X6_tellAbove : GoodIn wsX6_addFace wsX6_tellAbove := goodIn_r _ [10, 11, 1, 12, 13, 2, 3, 4, 5, 14, 15, 16, 28, 29, 30, 31, 32, 33] rfl (by decide +kernel)
set_option maxRecDepth 20000 in
theorem gX6_addFace_X6_tellAbove : GoodIn wsX6_addFace (wsV RX6 53 RX6 yX6_tellAbove wsX6_tellAbove) := goodIn_app (goodIn_of _ (by decide +kernel)) ggX6_addFace_X6_tellAbove
set_option maxRecDepth 20000 in
theorem ggX6_addFace_X6_countFaces : GoodIn wsX6_addFace wsX6_countFaces := goodIn_r _ [20, 1, 21, 22, 23, 24, 25, 26, 27, 28, 29, 30, 31, 32, 33] rfl (by decide +kernel)
set_option maxRecDepth 20000 in
theorem gX6_addFace_X6_countFaces : GoodIn wsX6_addFace (wsV RX6 56 RX6 yX6_countFaces wsX6_countFaces) := goodIn_app (goodIn_of _ (by decide +kernel)) ggX6_addFace_X6_countFaces
theorem dX6_addFace_0 : decode cX6_addFace 0 = .ok (.aload_n 0, 1) := by decide +kernel
theorem dX6_addFace_1 : decode cX6_addFace 1 = .ok (.getfield 18, 3) := by decide +kernel
theorem dX6_addFace_4 : decode cX6_addFace 4 = .ok (.iload_n 1, 1) := by decide +kernel
theorem dX6_addFace_5 : decode cX6_addFace 5 = .ok (.aload_n 0, 1) := by decide +kernel
theorem dX6_addFace_6 : decode cX6_addFace 6 = .ok (.getfield 18, 3) := by decide +kernel
theorem dX6_addFace_9 : decode cX6_addFace 9 = .ok (.iload_n 1, 1) := by decide +kernel
theorem dX6_addFace_10 : decode cX6_addFace 10 = .ok (.laload, 1) := by decide +kernel
theorem dX6_addFace_11 : decode cX6_addFace 11 = .ok (.iload_n 2, 1) := by decide +kernel
theorem dX6_addFace_12 : decode cX6_addFace 12 = .ok (.invokestatic 49, 3) := by decide +kernel
theorem dX6_addFace_15 : decode cX6_addFace 15 = .ok (.lastore, 1) := by decide +kernel
theorem dX6_addFace_16 : decode cX6_addFace 16 = .ok (.aload_n 0, 1) := by decide +kernel
theorem dX6_addFace_17 : decode cX6_addFace 17 = .ok (.invokevirtual 53, 3) := by decide +kernel
theorem dX6_addFace_20 : decode cX6_addFace 20 = .ok (.aload_n 0, 1) := by decide +kernel
theorem dX6_addFace_21 : decode cX6_addFace 21 = .ok (.iload_n 1, 1) := by decide +kernel
theorem dX6_addFace_22 : decode cX6_addFace 22 = .ok (.invokevirtual 56, 3) := by decide +kernel
theorem dX6_addFace_25 : decode cX6_addFace 25 = .ok (.ireturn, 1) := by decide +kernel
set_option maxRecDepth 20000 in
theorem ggX6_tellAbove_X0_with : GoodIn wsX6_tellAbove wsX0_with := goodIn_r _ [8] rfl (by decide +kernel)
set_option maxRecDepth 20000 in
theorem gX6_tellAbove_X0_with : GoodIn wsX6_tellAbove (va_wsS RX6 49 yX0_with wsX0_with) := goodIn_app (goodIn_of _ (by decide +kernel)) ggX6_tellAbove_X0_with
set_option maxRecDepth 20000 in
theorem ggX6_tellAbove_X0_has : GoodIn wsX6_tellAbove wsX0_has := goodIn_r _ [11] rfl (by decide +kernel)
set_option maxRecDepth 20000 in
theorem gX6_tellAbove_X0_has : GoodIn wsX6_tellAbove (va_wsS RX6 35 yX0_has wsX0_has) := goodIn_app (goodIn_of _ (by decide +kernel)) ggX6_tellAbove_X0_has
theorem dX6_tellAbove_0 : decode cX6_tellAbove 0 = .ok (.iconst 0, 1) := by decide +kernel
theorem dX6_tellAbove_1 : decode cX6_tellAbove 1 = .ok (.istore_n 1, 1) := by decide +kernel
theorem dX6_tellAbove_2 : decode cX6_tellAbove 2 = .ok (.iload_n 1, 1) := by decide +kernel
theorem dX6_tellAbove_3 : decode cX6_tellAbove 3 = .ok (.aload_n 0, 1) := by decide +kernel
theorem dX6_tellAbove_4 : decode cX6_tellAbove 4 = .ok (.getfield 25, 3) := by decide +kernel
theorem dX6_tellAbove_7 : decode cX6_tellAbove 7 = .ok (.if_icmp .ge 84, 3) := by decide +kernel
theorem dX6_tellAbove_10 : decode cX6_tellAbove 10 = .ok (.aload_n 0, 1) := by decide +kernel
theorem dX6_tellAbove_11 : decode cX6_tellAbove 11 = .ok (.getfield 18, 3) := by decide +kernel
theorem dX6_tellAbove_14 : decode cX6_tellAbove 14 = .ok (.iload_n 1, 1) := by decide +kernel
theorem dX6_tellAbove_15 : decode cX6_tellAbove 15 = .ok (.laload, 1) := by decide +kernel
theorem dX6_tellAbove_16 : decode cX6_tellAbove 16 = .ok (.lstore_n 2, 1) := by decide +kernel
theorem dX6_tellAbove_17 : decode cX6_tellAbove 17 = .ok (.aload_n 0, 1) := by decide +kernel
theorem dX6_tellAbove_18 : decode cX6_tellAbove 18 = .ok (.getfield 15, 3) := by decide +kernel
theorem dX6_tellAbove_21 : decode cX6_tellAbove 21 = .ok (.iload_n 1, 1) := by decide +kernel
theorem dX6_tellAbove_22 : decode cX6_tellAbove 22 = .ok (.iaload, 1) := by decide +kernel
theorem dX6_tellAbove_23 : decode cX6_tellAbove 23 = .ok (.iconst (-1), 1) := by decide +kernel
theorem dX6_tellAbove_24 : decode cX6_tellAbove 24 = .ok (.if_icmp .eq 14, 3) := by decide +kernel
theorem dX6_tellAbove_27 : decode cX6_tellAbove 27 = .ok (.lload_n 2, 1) := by decide +kernel
theorem dX6_tellAbove_28 : decode cX6_tellAbove 28 = .ok (.aload_n 0, 1) := by decide +kernel
theorem dX6_tellAbove_29 : decode cX6_tellAbove 29 = .ok (.getfield 15, 3) := by decide +kernel
theorem dX6_tellAbove_32 : decode cX6_tellAbove 32 = .ok (.iload_n 1, 1) := by decide +kernel
theorem dX6_tellAbove_33 : decode cX6_tellAbove 33 = .ok (.iaload, 1) := by decide +kernel
theorem dX6_tellAbove_34 : decode cX6_tellAbove 34 = .ok (.invokestatic 49, 3) := by decide +kernel
theorem dX6_tellAbove_37 : decode cX6_tellAbove 37 = .ok (.lstore_n 2, 1) := by decide +kernel
theorem dX6_tellAbove_38 : decode cX6_tellAbove 38 = .ok (.lload_n 2, 1) := by decide +kernel
theorem dX6_tellAbove_39 : decode cX6_tellAbove 39 = .ok (.lstore 4, 2) := by decide +kernel
theorem dX6_tellAbove_41 : decode cX6_tellAbove 41 = .ok (.iconst 0, 1) := by decide +kernel
theorem dX6_tellAbove_42 : decode cX6_tellAbove 42 = .ok (.istore 6, 2) := by decide +kernel
theorem dX6_tellAbove_44 : decode cX6_tellAbove 44 = .ok (.iload 6, 2) := by decide +kernel
theorem dX6_tellAbove_46 : decode cX6_tellAbove 46 = .ok (.iload_n 1, 1) := by decide +kernel
theorem dX6_tellAbove_47 : decode cX6_tellAbove 47 = .ok (.if_icmp .ge 30, 3) := by decide +kernel
theorem dX6_tellAbove_50 : decode cX6_tellAbove 50 = .ok (.lload_n 2, 1) := by decide +kernel
theorem dX6_tellAbove_51 : decode cX6_tellAbove 51 = .ok (.iload 6, 2) := by decide +kernel
theorem dX6_tellAbove_53 : decode cX6_tellAbove 53 = .ok (.invokestatic 35, 3) := by decide +kernel
theorem dX6_tellAbove_56 : decode cX6_tellAbove 56 = .ok (.ifCond .eq 15, 3) := by decide +kernel
theorem dX6_tellAbove_59 : decode cX6_tellAbove 59 = .ok (.lload 4, 2) := by decide +kernel
theorem dX6_tellAbove_61 : decode cX6_tellAbove 61 = .ok (.aload_n 0, 1) := by decide +kernel
theorem dX6_tellAbove_62 : decode cX6_tellAbove 62 = .ok (.getfield 22, 3) := by decide +kernel
theorem dX6_tellAbove_65 : decode cX6_tellAbove 65 = .ok (.iload 6, 2) := by decide +kernel
theorem dX6_tellAbove_67 : decode cX6_tellAbove 67 = .ok (.laload, 1) := by decide +kernel
theorem dX6_tellAbove_68 : decode cX6_tellAbove 68 = .ok (.lor, 1) := by decide +kernel
theorem dX6_tellAbove_69 : decode cX6_tellAbove 69 = .ok (.lstore 4, 2) := by decide +kernel
theorem dX6_tellAbove_71 : decode cX6_tellAbove 71 = .ok (.iinc 6 1, 3) := by decide +kernel
theorem dX6_tellAbove_74 : decode cX6_tellAbove 74 = .ok (.goto (-30), 3) := by decide +kernel
theorem dX6_tellAbove_77 : decode cX6_tellAbove 77 = .ok (.aload_n 0, 1) := by decide +kernel
theorem dX6_tellAbove_78 : decode cX6_tellAbove 78 = .ok (.getfield 22, 3) := by decide +kernel
theorem dX6_tellAbove_81 : decode cX6_tellAbove 81 = .ok (.iload_n 1, 1) := by decide +kernel
theorem dX6_tellAbove_82 : decode cX6_tellAbove 82 = .ok (.lload 4, 2) := by decide +kernel
theorem dX6_tellAbove_84 : decode cX6_tellAbove 84 = .ok (.lastore, 1) := by decide +kernel
theorem dX6_tellAbove_85 : decode cX6_tellAbove 85 = .ok (.iinc 1 1, 3) := by decide +kernel
theorem dX6_tellAbove_88 : decode cX6_tellAbove 88 = .ok (.goto (-86), 3) := by decide +kernel
theorem dX6_tellAbove_91 : decode cX6_tellAbove 91 = .ok (.return_, 1) := by decide +kernel
set_option maxRecDepth 20000 in
theorem ggX7_init_X6_init : GoodIn wsX7_init wsX6_init := goodIn_r _ [29, 30, 2, 3, 31, 32, 33, 34, 35, 36, 93, 94, 95, 96, 97, 98] rfl (by decide +kernel)
set_option maxRecDepth 20000 in
theorem gX7_init_X6_init_n9 : GoodIn wsX7_init (wsX6_init) := ggX7_init_X6_init
set_option maxRecDepth 20000 in
theorem ggX7_init_X4_init : GoodIn wsX7_init wsX4_init := goodIn_r _ [39, 40, 2, 3, 31, 41, 42, 43, 44, 34, 45, 46, 47, 48, 49, 50, 51, 105, 106, 107, 108, 109, 110, 111, 112, 113, 114, 115] rfl (by decide +kernel)
set_option maxRecDepth 20000 in
theorem gX7_init_X4_init : GoodIn wsX7_init (wsX4_init) := ggX7_init_X4_init
set_option maxRecDepth 20000 in
theorem ggX7_init_X1_init : GoodIn wsX7_init wsX1_init := goodIn_r _ [54, 55, 2, 3, 31, 56, 57, 58, 59, 116, 117, 118, 119] rfl (by decide +kernel)
set_option maxRecDepth 20000 in
theorem gX7_init_X1_init : GoodIn wsX7_init (wsX1_init) := ggX7_init_X1_init
set_option maxRecDepth 20000 in
theorem ggX7_init_X5_init : GoodIn wsX7_init wsX5_init := goodIn_r _ [61, 62, 2, 3, 31, 63, 64, 65, 66, 67, 120, 121, 122, 123, 124, 125] rfl (by decide +kernel)
set_option maxRecDepth 20000 in
theorem gX7_init_X5_init_n36 : GoodIn wsX7_init (wsX5_init) := ggX7_init_X5_init
set_option maxRecDepth 20000 in
theorem ggX7_init_X3_init : GoodIn wsX7_init wsX3_init := goodIn_r _ [70, 71, 2, 3, 34, 72, 73, 74, 75, 76, 77, 78, 79, 80, 126, 127, 128, 129, 130, 131, 132, 133, 134, 135, 136, 137, 138] rfl (by decide +kernel)
set_option maxRecDepth 20000 in
theorem gX7_init_X3_init : GoodIn wsX7_init (wsX3_init) := ggX7_init_X3_init
set_option maxRecDepth 20000 in
theorem ggX7_init_X2_init : GoodIn wsX7_init wsX2_init := goodIn_r _ [83, 84, 2, 3, 31, 85, 86, 87, 34, 88, 89, 90, 91, 92, 139, 140, 141, 142, 143, 144, 145, 146, 147, 148, 149, 150, 151, 152, 153] rfl (by decide +kernel)
set_option maxRecDepth 20000 in
theorem gX7_init_X2_init : GoodIn wsX7_init (wsX2_init) := ggX7_init_X2_init
theorem dX7_init_0 : decode cX7_init 0 = .ok (.aload_n 0, 1) := by decide +kernel
theorem dX7_init_1 : decode cX7_init 1 = .ok (.invokespecial 1, 3) := by decide +kernel
theorem dX7_init_4 : decode cX7_init 4 = .ok (.aload_n 0, 1) := by decide +kernel
theorem dX7_init_5 : decode cX7_init 5 = .ok (.new 7, 3) := by decide +kernel
theorem dX7_init_8 : decode cX7_init 8 = .ok (.dup, 1) := by decide +kernel
theorem dX7_init_9 : decode cX7_init 9 = .ok (.invokespecial 9, 3) := by decide +kernel
theorem dX7_init_12 : decode cX7_init 12 = .ok (.putfield 10, 3) := by decide +kernel
theorem dX7_init_15 : decode cX7_init 15 = .ok (.aload_n 0, 1) := by decide +kernel
theorem dX7_init_16 : decode cX7_init 16 = .ok (.new 16, 3) := by decide +kernel
theorem dX7_init_19 : decode cX7_init 19 = .ok (.dup, 1) := by decide +kernel
theorem dX7_init_20 : decode cX7_init 20 = .ok (.aload_n 0, 1) := by decide +kernel
theorem dX7_init_21 : decode cX7_init 21 = .ok (.getfield 10, 3) := by decide +kernel
theorem dX7_init_24 : decode cX7_init 24 = .ok (.invokespecial 18, 3) := by decide +kernel
theorem dX7_init_27 : decode cX7_init 27 = .ok (.putfield 21, 3) := by decide +kernel
theorem dX7_init_30 : decode cX7_init 30 = .ok (.aload_n 0, 1) := by decide +kernel
theorem dX7_init_31 : decode cX7_init 31 = .ok (.new 25, 3) := by decide +kernel
theorem dX7_init_34 : decode cX7_init 34 = .ok (.dup, 1) := by decide +kernel
theorem dX7_init_35 : decode cX7_init 35 = .ok (.aload_n 0, 1) := by decide +kernel
theorem dX7_init_36 : decode cX7_init 36 = .ok (.getfield 10, 3) := by decide +kernel
theorem dX7_init_39 : decode cX7_init 39 = .ok (.aload_n 0, 1) := by decide +kernel
theorem dX7_init_40 : decode cX7_init 40 = .ok (.getfield 21, 3) := by decide +kernel
theorem dX7_init_43 : decode cX7_init 43 = .ok (.invokespecial 27, 3) := by decide +kernel
theorem dX7_init_46 : decode cX7_init 46 = .ok (.putfield 30, 3) := by decide +kernel
theorem dX7_init_49 : decode cX7_init 49 = .ok (.aload_n 0, 1) := by decide +kernel
theorem dX7_init_50 : decode cX7_init 50 = .ok (.new 34, 3) := by decide +kernel
theorem dX7_init_53 : decode cX7_init 53 = .ok (.dup, 1) := by decide +kernel
theorem dX7_init_54 : decode cX7_init 54 = .ok (.invokespecial 36, 3) := by decide +kernel
