set_option maxRecDepth 20000 in
theorem gX8_follow_X8_callAll : GoodIn wsX8_follow (wsV RX8 204 RX8 yX8_callAll wsX8_callAll) := goodIn_app (goodIn_of _ (by decide +kernel)) ggX8_follow_X8_callAll
set_option maxRecDepth 20000 in
theorem ggX8_follow_X8_chosenOf : GoodIn wsX8_follow wsX8_chosenOf := goodIn_r _ [82, 7, 61, 62, 63, 15, 64, 24, 36, 10, 65, 43, 44, 45, 46, 8, 11, 66, 67, 68, 69, 70, 17, 25, 26, 27, 28, 29, 30, 31, 32, 33, 34, 35, 37, 38, 71, 72, 73, 74, 86, 87, 88, 89, 90, 91, 92, 93, 94, 95, 96, 97, 98, 99, 100, 101, 102, 103, 104, 105, 106, 107, 108, 109, 110, 111, 112, 113, 114, 115, 116, 117, 118, 119, 120, 121, 122, 123, 124, 125, 126, 127, 128, 129, 130, 131, 132, 133, 134, 135] rfl (by decide +kernel)
set_option maxRecDepth 20000 in
theorem gX8_follow_X8_chosenOf : GoodIn wsX8_follow (wsV RX8 179 RX8 yX8_chosenOf wsX8_chosenOf) := goodIn_app (goodIn_of _ (by decide +kernel)) ggX8_follow_X8_chosenOf
set_option maxRecDepth 20000 in
theorem ggX8_follow_X8_call : GoodIn wsX8_follow wsX8_call := goodIn_r _ [50, 5, 51, 52, 53, 54, 15, 55, 56, 86, 87, 88, 89, 90, 91, 92, 93, 94, 95, 96, 97, 98, 99, 100, 101, 102, 103, 104, 105, 106, 107, 108, 109, 110, 111, 112, 113, 114, 115, 116, 117, 118, 119, 120, 121, 122, 123, 124, 125, 126, 127, 128, 129, 130, 131, 132, 133, 134, 135] rfl (by decide +kernel)
set_option maxRecDepth 20000 in
theorem gX8_follow_X8_call : GoodIn wsX8_follow (wsV RX8 195 RX8 yX8_call wsX8_call) := goodIn_app (goodIn_of _ (by decide +kernel)) ggX8_follow_X8_call
set_option maxRecDepth 20000 in
theorem ggX8_follow_X8_fault : GoodIn wsX8_follow wsX8_fault := goodIn_r _ [78, 3, 86, 87, 88, 89, 90, 91, 92, 93, 94, 95, 96, 97, 98, 99, 100, 101, 102, 103, 104, 105, 106, 107, 108, 109, 110, 111, 112, 113, 114, 115, 116, 117, 118, 119, 120, 121, 122, 123, 124, 125, 126, 127, 128, 129, 130, 131, 132, 133, 134, 135] rfl (by decide +kernel)
set_option maxRecDepth 20000 in
theorem gX8_follow_X8_fault : GoodIn wsX8_follow (wsV RX8 198 RX8 yX8_fault wsX8_fault) := goodIn_app (goodIn_of _ (by decide +kernel)) ggX8_follow_X8_fault
set_option maxRecDepth 20000 in
theorem ggX8_follow_X8_find : GoodIn wsX8_follow wsX8_find := goodIn_r _ [64, 24, 36, 10, 65, 7, 43, 44, 45, 15, 46, 8, 11, 66, 67, 68, 69, 70, 17, 25, 26, 27, 28, 29, 30, 31, 32, 33, 34, 35, 37, 38, 86, 87, 88, 89, 90, 91, 92, 93, 94, 95, 96, 97, 98, 99, 100, 101, 102, 103, 104, 105, 106, 107, 108, 109, 110, 111, 112, 113, 114, 115, 116, 117, 118, 119, 120, 121, 122, 123, 124, 125, 126, 127, 128, 129, 130, 131, 132, 133, 134, 135] rfl (by decide +kernel)
set_option maxRecDepth 20000 in
theorem gX8_follow_X8_find : GoodIn wsX8_follow (wsV RX8 173 RX8 yX8_find wsX8_find) := goodIn_app (goodIn_of _ (by decide +kernel)) ggX8_follow_X8_find
set_option maxRecDepth 20000 in
theorem ggX8_follow_X8_canBeCalled : GoodIn wsX8_follow wsX8_canBeCalled := goodIn_r _ [85] rfl (by decide +kernel)
set_option maxRecDepth 20000 in
theorem gX8_follow_X8_canBeCalled : GoodIn wsX8_follow (va_wsS RX8 153 yX8_canBeCalled wsX8_canBeCalled) := goodIn_app (goodIn_of _ (by decide +kernel)) ggX8_follow_X8_canBeCalled
theorem dX8_follow_0 : decode cX8_follow 0 = .ok (.aload_n 0, 1) := by decide +kernel
theorem dX8_follow_1 : decode cX8_follow 1 = .ok (.getfield 44, 3) := by decide +kernel
theorem dX8_follow_4 : decode cX8_follow 4 = .ok (.iload_n 1, 1) := by decide +kernel
theorem dX8_follow_5 : decode cX8_follow 5 = .ok (.iaload, 1) := by decide +kernel
theorem dX8_follow_6 : decode cX8_follow 6 = .ok (.istore_n 2, 1) := by decide +kernel
theorem dX8_follow_7 : decode cX8_follow 7 = .ok (.aload_n 0, 1) := by decide +kernel
theorem dX8_follow_8 : decode cX8_follow 8 = .ok (.getfield 47, 3) := by decide +kernel
theorem dX8_follow_11 : decode cX8_follow 11 = .ok (.iload_n 1, 1) := by decide +kernel
theorem dX8_follow_12 : decode cX8_follow 12 = .ok (.iaload, 1) := by decide +kernel
theorem dX8_follow_13 : decode cX8_follow 13 = .ok (.istore_n 3, 1) := by decide +kernel
theorem dX8_follow_14 : decode cX8_follow 14 = .ok (.iconst 0, 1) := by decide +kernel
theorem dX8_follow_15 : decode cX8_follow 15 = .ok (.istore 4, 2) := by decide +kernel
theorem dX8_follow_17 : decode cX8_follow 17 = .ok (.iload 4, 2) := by decide +kernel
theorem dX8_follow_19 : decode cX8_follow 19 = .ok (.iconst 4, 1) := by decide +kernel
theorem dX8_follow_20 : decode cX8_follow 20 = .ok (.if_icmp .ge 21, 3) := by decide +kernel
theorem dX8_follow_23 : decode cX8_follow 23 = .ok (.aload_n 0, 1) := by decide +kernel
theorem dX8_follow_24 : decode cX8_follow 24 = .ok (.getfield 65, 3) := by decide +kernel
theorem dX8_follow_27 : decode cX8_follow 27 = .ok (.iconst 4, 1) := by decide +kernel
theorem dX8_follow_28 : decode cX8_follow 28 = .ok (.iload_n 1, 1) := by decide +kernel
theorem dX8_follow_29 : decode cX8_follow 29 = .ok (.imul, 1) := by decide +kernel
theorem dX8_follow_30 : decode cX8_follow 30 = .ok (.iload 4, 2) := by decide +kernel
theorem dX8_follow_32 : decode cX8_follow 32 = .ok (.iadd, 1) := by decide +kernel
theorem dX8_follow_33 : decode cX8_follow 33 = .ok (.iconst 0, 1) := by decide +kernel
theorem dX8_follow_34 : decode cX8_follow 34 = .ok (.iastore, 1) := by decide +kernel
theorem dX8_follow_35 : decode cX8_follow 35 = .ok (.iinc 4 1, 3) := by decide +kernel
theorem dX8_follow_38 : decode cX8_follow 38 = .ok (.goto (-21), 3) := by decide +kernel
theorem dX8_follow_41 : decode cX8_follow 41 = .ok (.aload_n 0, 1) := by decide +kernel
theorem dX8_follow_42 : decode cX8_follow 42 = .ok (.getfield 41, 3) := by decide +kernel
theorem dX8_follow_45 : decode cX8_follow 45 = .ok (.iload_n 1, 1) := by decide +kernel
theorem dX8_follow_46 : decode cX8_follow 46 = .ok (.iaload, 1) := by decide +kernel
theorem dX8_follow_47 : decode cX8_follow 47 = .ok (.tableswitch 292 0 6 #[41, 82, 92, 126, 194, 204, 249], 41) := by decide +kernel
theorem dX8_follow_88 : decode cX8_follow 88 = .ok (.aload_n 0, 1) := by decide +kernel
theorem dX8_follow_89 : decode cX8_follow 89 = .ok (.aload_n 0, 1) := by decide +kernel
theorem dX8_follow_90 : decode cX8_follow 90 = .ok (.getfield 186, 3) := by decide +kernel
theorem dX8_follow_93 : decode cX8_follow 93 = .ok (.ifCond .ne 12, 3) := by decide +kernel
theorem dX8_follow_96 : decode cX8_follow 96 = .ok (.aload_n 0, 1) := by decide +kernel
theorem dX8_follow_97 : decode cX8_follow 97 = .ok (.getfield 53, 3) := by decide +kernel
theorem dX8_follow_100 : decode cX8_follow 100 = .ok (.iload_n 2, 1) := by decide +kernel
theorem dX8_follow_101 : decode cX8_follow 101 = .ok (.baload, 1) := by decide +kernel
theorem dX8_follow_102 : decode cX8_follow 102 = .ok (.ifCond .ne 7, 3) := by decide +kernel
theorem dX8_follow_105 : decode cX8_follow 105 = .ok (.iconst 1, 1) := by decide +kernel
theorem dX8_follow_106 : decode cX8_follow 106 = .ok (.goto 4, 3) := by decide +kernel
theorem dX8_follow_109 : decode cX8_follow 109 = .ok (.iconst 0, 1) := by decide +kernel
theorem dX8_follow_110 : decode cX8_follow 110 = .ok (.putfield 186, 3) := by decide +kernel
theorem dX8_follow_113 : decode cX8_follow 113 = .ok (.aload_n 0, 1) := by decide +kernel
theorem dX8_follow_114 : decode cX8_follow 114 = .ok (.getfield 53, 3) := by decide +kernel
theorem dX8_follow_117 : decode cX8_follow 117 = .ok (.iload_n 2, 1) := by decide +kernel
theorem dX8_follow_118 : decode cX8_follow 118 = .ok (.iconst 1, 1) := by decide +kernel
theorem dX8_follow_119 : decode cX8_follow 119 = .ok (.bastore, 1) := by decide +kernel
theorem dX8_follow_120 : decode cX8_follow 120 = .ok (.aload_n 0, 1) := by decide +kernel
theorem dX8_follow_121 : decode cX8_follow 121 = .ok (.iload_n 1, 1) := by decide +kernel
theorem dX8_follow_122 : decode cX8_follow 122 = .ok (.iload_n 2, 1) := by decide +kernel
theorem dX8_follow_123 : decode cX8_follow 123 = .ok (.invokevirtual 201, 3) := by decide +kernel
theorem dX8_follow_126 : decode cX8_follow 126 = .ok (.goto 262, 3) := by decide +kernel
theorem dX8_follow_129 : decode cX8_follow 129 = .ok (.aload_n 0, 1) := by decide +kernel
theorem dX8_follow_130 : decode cX8_follow 130 = .ok (.iload_n 1, 1) := by decide +kernel
theorem dX8_follow_131 : decode cX8_follow 131 = .ok (.iload_n 2, 1) := by decide +kernel
theorem dX8_follow_132 : decode cX8_follow 132 = .ok (.iload_n 3, 1) := by decide +kernel
theorem dX8_follow_133 : decode cX8_follow 133 = .ok (.invokevirtual 204, 3) := by decide +kernel
theorem dX8_follow_136 : decode cX8_follow 136 = .ok (.goto 252, 3) := by decide +kernel
theorem dX8_follow_139 : decode cX8_follow 139 = .ok (.aload_n 0, 1) := by decide +kernel
theorem dX8_follow_140 : decode cX8_follow 140 = .ok (.iload_n 2, 1) := by decide +kernel
theorem dX8_follow_141 : decode cX8_follow 141 = .ok (.iload_n 2, 1) := by decide +kernel
theorem dX8_follow_142 : decode cX8_follow 142 = .ok (.iload_n 3, 1) := by decide +kernel
theorem dX8_follow_143 : decode cX8_follow 143 = .ok (.invokevirtual 179, 3) := by decide +kernel
theorem dX8_follow_146 : decode cX8_follow 146 = .ok (.istore 4, 2) := by decide +kernel
theorem dX8_follow_148 : decode cX8_follow 148 = .ok (.iload 4, 2) := by decide +kernel
theorem dX8_follow_150 : decode cX8_follow 150 = .ok (.ifCond .lt 13, 3) := by decide +kernel
theorem dX8_follow_153 : decode cX8_follow 153 = .ok (.aload_n 0, 1) := by decide +kernel
theorem dX8_follow_154 : decode cX8_follow 154 = .ok (.iload_n 1, 1) := by decide +kernel
theorem dX8_follow_155 : decode cX8_follow 155 = .ok (.iload 4, 2) := by decide +kernel
theorem dX8_follow_157 : decode cX8_follow 157 = .ok (.invokevirtual 195, 3) := by decide +kernel
theorem dX8_follow_160 : decode cX8_follow 160 = .ok (.goto 228, 3) := by decide +kernel
theorem dX8_follow_163 : decode cX8_follow 163 = .ok (.aload_n 0, 1) := by decide +kernel
theorem dX8_follow_164 : decode cX8_follow 164 = .ok (.iload_n 1, 1) := by decide +kernel
theorem dX8_follow_165 : decode cX8_follow 165 = .ok (.iload 4, 2) := by decide +kernel
theorem dX8_follow_167 : decode cX8_follow 167 = .ok (.invokevirtual 198, 3) := by decide +kernel
theorem dX8_follow_170 : decode cX8_follow 170 = .ok (.goto 218, 3) := by decide +kernel
theorem dX8_follow_173 : decode cX8_follow 173 = .ok (.aload_n 0, 1) := by decide +kernel
theorem dX8_follow_174 : decode cX8_follow 174 = .ok (.iload_n 2, 1) := by decide +kernel
theorem dX8_follow_175 : decode cX8_follow 175 = .ok (.iload_n 3, 1) := by decide +kernel
theorem dX8_follow_176 : decode cX8_follow 176 = .ok (.invokevirtual 173, 3) := by decide +kernel
theorem dX8_follow_179 : decode cX8_follow 179 = .ok (.istore 5, 2) := by decide +kernel
theorem dX8_follow_181 : decode cX8_follow 181 = .ok (.iload 5, 2) := by decide +kernel
theorem dX8_follow_183 : decode cX8_follow 183 = .ok (.iconst (-1), 1) := by decide +kernel
theorem dX8_follow_184 : decode cX8_follow 184 = .ok (.if_icmp .eq 36, 3) := by decide +kernel
theorem dX8_follow_187 : decode cX8_follow 187 = .ok (.aload_n 0, 1) := by decide +kernel
theorem dX8_follow_188 : decode cX8_follow 188 = .ok (.getfield 28, 3) := by decide +kernel
theorem dX8_follow_191 : decode cX8_follow 191 = .ok (.iload 5, 2) := by decide +kernel
theorem dX8_follow_193 : decode cX8_follow 193 = .ok (.iaload, 1) := by decide +kernel
theorem dX8_follow_194 : decode cX8_follow 194 = .ok (.iconst 2, 1) := by decide +kernel
theorem dX8_follow_195 : decode cX8_follow 195 = .ok (.if_icmp .ne 25, 3) := by decide +kernel
theorem dX8_follow_198 : decode cX8_follow 198 = .ok (.aload_n 0, 1) := by decide +kernel
theorem dX8_follow_199 : decode cX8_follow 199 = .ok (.iload_n 1, 1) := by decide +kernel
theorem dX8_follow_200 : decode cX8_follow 200 = .ok (.iload 5, 2) := by decide +kernel
theorem dX8_follow_202 : decode cX8_follow 202 = .ok (.invokevirtual 195, 3) := by decide +kernel
theorem dX8_follow_205 : decode cX8_follow 205 = .ok (.aload_n 0, 1) := by decide +kernel
theorem dX8_follow_206 : decode cX8_follow 206 = .ok (.iload_n 1, 1) := by decide +kernel
theorem dX8_follow_207 : decode cX8_follow 207 = .ok (.aload_n 0, 1) := by decide +kernel
theorem dX8_follow_208 : decode cX8_follow 208 = .ok (.getfield 22, 3) := by decide +kernel
theorem dX8_follow_211 : decode cX8_follow 211 = .ok (.iload 5, 2) := by decide +kernel
theorem dX8_follow_213 : decode cX8_follow 213 = .ok (.iaload, 1) := by decide +kernel
theorem dX8_follow_214 : decode cX8_follow 214 = .ok (.invokevirtual 201, 3) := by decide +kernel
theorem dX8_follow_217 : decode cX8_follow 217 = .ok (.goto 171, 3) := by decide +kernel
theorem dX8_follow_220 : decode cX8_follow 220 = .ok (.aload_n 0, 1) := by decide +kernel
theorem dX8_follow_221 : decode cX8_follow 221 = .ok (.iload_n 1, 1) := by decide +kernel
theorem dX8_follow_222 : decode cX8_follow 222 = .ok (.iload 5, 2) := by decide +kernel
theorem dX8_follow_224 : decode cX8_follow 224 = .ok (.iconst (-1), 1) := by decide +kernel
theorem dX8_follow_225 : decode cX8_follow 225 = .ok (.if_icmp .ne 8, 3) := by decide +kernel
theorem dX8_follow_228 : decode cX8_follow 228 = .ok (.bipush (-2), 2) := by decide +kernel
theorem dX8_follow_230 : decode cX8_follow 230 = .ok (.goto 5, 3) := by decide +kernel
theorem dX8_follow_233 : decode cX8_follow 233 = .ok (.bipush (-3), 2) := by decide +kernel
theorem dX8_follow_235 : decode cX8_follow 235 = .ok (.invokevirtual 198, 3) := by decide +kernel
theorem dX8_follow_238 : decode cX8_follow 238 = .ok (.goto 150, 3) := by decide +kernel
theorem dX8_follow_241 : decode cX8_follow 241 = .ok (.aload_n 0, 1) := by decide +kernel
theorem dX8_follow_242 : decode cX8_follow 242 = .ok (.iload_n 1, 1) := by decide +kernel
theorem dX8_follow_243 : decode cX8_follow 243 = .ok (.iload_n 2, 1) := by decide +kernel
theorem dX8_follow_244 : decode cX8_follow 244 = .ok (.iload_n 3, 1) := by decide +kernel
theorem dX8_follow_245 : decode cX8_follow 245 = .ok (.invokevirtual 204, 3) := by decide +kernel
theorem dX8_follow_248 : decode cX8_follow 248 = .ok (.goto 140, 3) := by decide +kernel
theorem dX8_follow_251 : decode cX8_follow 251 = .ok (.aload_n 0, 1) := by decide +kernel
theorem dX8_follow_252 : decode cX8_follow 252 = .ok (.aload_n 0, 1) := by decide +kernel
theorem dX8_follow_253 : decode cX8_follow 253 = .ok (.getfield 186, 3) := by decide +kernel
theorem dX8_follow_256 : decode cX8_follow 256 = .ok (.ifCond .ne 17, 3) := by decide +kernel
theorem dX8_follow_259 : decode cX8_follow 259 = .ok (.aload_n 0, 1) := by decide +kernel
theorem dX8_follow_260 : decode cX8_follow 260 = .ok (.getfield 59, 3) := by decide +kernel
theorem dX8_follow_263 : decode cX8_follow 263 = .ok (.bipush 48, 2) := by decide +kernel
theorem dX8_follow_265 : decode cX8_follow 265 = .ok (.iload_n 2, 1) := by decide +kernel
theorem dX8_follow_266 : decode cX8_follow 266 = .ok (.imul, 1) := by decide +kernel
theorem dX8_follow_267 : decode cX8_follow 267 = .ok (.iload_n 3, 1) := by decide +kernel
theorem dX8_follow_268 : decode cX8_follow 268 = .ok (.iadd, 1) := by decide +kernel
theorem dX8_follow_269 : decode cX8_follow 269 = .ok (.baload, 1) := by decide +kernel
theorem dX8_follow_270 : decode cX8_follow 270 = .ok (.ifCond .ne 7, 3) := by decide +kernel
theorem dX8_follow_273 : decode cX8_follow 273 = .ok (.iconst 1, 1) := by decide +kernel
theorem dX8_follow_274 : decode cX8_follow 274 = .ok (.goto 4, 3) := by decide +kernel
theorem dX8_follow_277 : decode cX8_follow 277 = .ok (.iconst 0, 1) := by decide +kernel
theorem dX8_follow_278 : decode cX8_follow 278 = .ok (.putfield 186, 3) := by decide +kernel
theorem dX8_follow_281 : decode cX8_follow 281 = .ok (.aload_n 0, 1) := by decide +kernel
theorem dX8_follow_282 : decode cX8_follow 282 = .ok (.getfield 59, 3) := by decide +kernel
theorem dX8_follow_285 : decode cX8_follow 285 = .ok (.bipush 48, 2) := by decide +kernel
theorem dX8_follow_287 : decode cX8_follow 287 = .ok (.iload_n 2, 1) := by decide +kernel
theorem dX8_follow_288 : decode cX8_follow 288 = .ok (.imul, 1) := by decide +kernel
theorem dX8_follow_289 : decode cX8_follow 289 = .ok (.iload_n 3, 1) := by decide +kernel
theorem dX8_follow_290 : decode cX8_follow 290 = .ok (.iadd, 1) := by decide +kernel
theorem dX8_follow_291 : decode cX8_follow 291 = .ok (.iconst 1, 1) := by decide +kernel
theorem dX8_follow_292 : decode cX8_follow 292 = .ok (.bastore, 1) := by decide +kernel
theorem dX8_follow_293 : decode cX8_follow 293 = .ok (.goto 95, 3) := by decide +kernel
theorem dX8_follow_296 : decode cX8_follow 296 = .ok (.iconst 0, 1) := by decide +kernel
theorem dX8_follow_297 : decode cX8_follow 297 = .ok (.istore 6, 2) := by decide +kernel
theorem dX8_follow_299 : decode cX8_follow 299 = .ok (.iload 6, 2) := by decide +kernel
theorem dX8_follow_301 : decode cX8_follow 301 = .ok (.aload_n 0, 1) := by decide +kernel
theorem dX8_follow_302 : decode cX8_follow 302 = .ok (.getfield 131, 3) := by decide +kernel
theorem dX8_follow_305 : decode cX8_follow 305 = .ok (.if_icmp .ge 31, 3) := by decide +kernel
theorem dX8_follow_308 : decode cX8_follow 308 = .ok (.aload_n 0, 1) := by decide +kernel
theorem dX8_follow_309 : decode cX8_follow 309 = .ok (.getfield 59, 3) := by decide +kernel
theorem dX8_follow_312 : decode cX8_follow 312 = .ok (.bipush 48, 2) := by decide +kernel
theorem dX8_follow_314 : decode cX8_follow 314 = .ok (.iload_n 2, 1) := by decide +kernel
theorem dX8_follow_315 : decode cX8_follow 315 = .ok (.imul, 1) := by decide +kernel
theorem dX8_follow_316 : decode cX8_follow 316 = .ok (.iload 6, 2) := by decide +kernel
theorem dX8_follow_318 : decode cX8_follow 318 = .ok (.iadd, 1) := by decide +kernel
theorem dX8_follow_319 : decode cX8_follow 319 = .ok (.baload, 1) := by decide +kernel
theorem dX8_follow_320 : decode cX8_follow 320 = .ok (.ifCond .eq 10, 3) := by decide +kernel
theorem dX8_follow_323 : decode cX8_follow 323 = .ok (.aload_n 0, 1) := by decide +kernel
theorem dX8_follow_324 : decode cX8_follow 324 = .ok (.iload_n 1, 1) := by decide +kernel
theorem dX8_follow_325 : decode cX8_follow 325 = .ok (.iload 6, 2) := by decide +kernel
theorem dX8_follow_327 : decode cX8_follow 327 = .ok (.invokevirtual 195, 3) := by decide +kernel
theorem dX8_follow_330 : decode cX8_follow 330 = .ok (.iinc 6 1, 3) := by decide +kernel
theorem dX8_follow_333 : decode cX8_follow 333 = .ok (.goto (-34), 3) := by decide +kernel
theorem dX8_follow_336 : decode cX8_follow 336 = .ok (.goto 52, 3) := by decide +kernel
theorem dX8_follow_339 : decode cX8_follow 339 = .ok (.iconst 0, 1) := by decide +kernel
theorem dX8_follow_340 : decode cX8_follow 340 = .ok (.istore 6, 2) := by decide +kernel
theorem dX8_follow_342 : decode cX8_follow 342 = .ok (.iload 6, 2) := by decide +kernel
theorem dX8_follow_344 : decode cX8_follow 344 = .ok (.aload_n 0, 1) := by decide +kernel
theorem dX8_follow_345 : decode cX8_follow 345 = .ok (.getfield 131, 3) := by decide +kernel
theorem dX8_follow_348 : decode cX8_follow 348 = .ok (.if_icmp .ge 40, 3) := by decide +kernel
theorem dX8_follow_351 : decode cX8_follow 351 = .ok (.aload_n 0, 1) := by decide +kernel
theorem dX8_follow_352 : decode cX8_follow 352 = .ok (.getfield 25, 3) := by decide +kernel
theorem dX8_follow_355 : decode cX8_follow 355 = .ok (.iload 6, 2) := by decide +kernel
theorem dX8_follow_357 : decode cX8_follow 357 = .ok (.iaload, 1) := by decide +kernel
theorem dX8_follow_358 : decode cX8_follow 358 = .ok (.iload_n 3, 1) := by decide +kernel
theorem dX8_follow_359 : decode cX8_follow 359 = .ok (.if_icmp .ne 23, 3) := by decide +kernel
theorem dX8_follow_362 : decode cX8_follow 362 = .ok (.aload_n 0, 1) := by decide +kernel
theorem dX8_follow_363 : decode cX8_follow 363 = .ok (.getfield 28, 3) := by decide +kernel
theorem dX8_follow_366 : decode cX8_follow 366 = .ok (.iload 6, 2) := by decide +kernel
theorem dX8_follow_368 : decode cX8_follow 368 = .ok (.iaload, 1) := by decide +kernel
theorem dX8_follow_369 : decode cX8_follow 369 = .ok (.invokestatic 153, 3) := by decide +kernel
theorem dX8_follow_372 : decode cX8_follow 372 = .ok (.ifCond .eq 10, 3) := by decide +kernel
theorem dX8_follow_375 : decode cX8_follow 375 = .ok (.aload_n 0, 1) := by decide +kernel
theorem dX8_follow_376 : decode cX8_follow 376 = .ok (.iload_n 1, 1) := by decide +kernel
theorem dX8_follow_377 : decode cX8_follow 377 = .ok (.iload 6, 2) := by decide +kernel
theorem dX8_follow_379 : decode cX8_follow 379 = .ok (.invokevirtual 195, 3) := by decide +kernel
theorem dX8_follow_382 : decode cX8_follow 382 = .ok (.iinc 6 1, 3) := by decide +kernel
theorem dX8_follow_385 : decode cX8_follow 385 = .ok (.goto (-43), 3) := by decide +kernel
theorem dX8_follow_388 : decode cX8_follow 388 = .ok (.return_, 1) := by decide +kernel
set_option maxRecDepth 20000 in
theorem ggX8_freshen_X8_follow : GoodIn wsX8_freshen wsX8_follow := goodIn_r _ [17, 18, 19, 9, 20, 10, 5, 21, 22, 7, 3, 23, 24, 25, 26, 16, 27, 28, 29, 6, 30, 31, 32, 33, 34, 35, 36, 37, 38, 39, 40, 41, 42, 43, 44, 45, 46, 47, 48, 49, 50, 51, 52, 53, 54, 55, 56, 57, 58, 59, 60, 8, 61, 62, 63, 64, 2, 65, 66, 67, 68, 69, 70, 71, 72, 73, 74, 75, 76, 77, 78, 79, 80, 81, 82, 83, 84, 85, 86, 87, 88, 89, 90, 91, 92, 93, 100, 101, 102, 103, 104, 105, 106, 107, 108, 109, 110, 111, 112, 113, 114, 115, 116, 117, 118, 119, 120, 121, 122, 123, 124, 125, 126, 127, 128, 129, 130, 131, 132, 133, 134, 135, 136, 137, 138, 139, 140, 141, 142, 143, 144, 145, 146, 147, 148, 149] rfl (by decide +kernel)
set_option maxRecDepth 20000 in
theorem gX8_freshen_X8_follow : GoodIn wsX8_freshen (wsV RX8 208 RX8 yX8_follow wsX8_follow) := goodIn_app (goodIn_of _ (by decide +kernel)) ggX8_freshen_X8_follow
set_option maxRecDepth 20000 in
theorem ggX8_freshen_X8_findComes : GoodIn wsX8_freshen wsX8_findComes := goodIn_r _ [97, 3, 11, 2, 8, 12, 98, 99, 100, 101, 102, 103, 104, 105, 106, 107, 108, 109, 110, 111, 112, 113, 114, 115, 116, 117, 118, 119, 120, 121, 122, 123, 124, 125, 126, 127, 128, 129, 130, 131, 132, 133, 134, 135, 136, 137, 138, 139, 140, 141, 142, 143, 144, 145, 146, 147, 148, 149] rfl (by decide +kernel)
set_option maxRecDepth 20000 in
theorem gX8_freshen_X8_findComes : GoodIn wsX8_freshen (wsV RX8 211 RX8 yX8_findComes wsX8_findComes) := goodIn_app (goodIn_of _ (by decide +kernel)) ggX8_freshen_X8_findComes
theorem dX8_freshen_0 : decode cX8_freshen 0 = .ok (.aload_n 0, 1) := by decide +kernel
theorem dX8_freshen_1 : decode cX8_freshen 1 = .ok (.getfield 119, 3) := by decide +kernel
theorem dX8_freshen_4 : decode cX8_freshen 4 = .ok (.ifCond .eq 4, 3) := by decide +kernel
theorem dX8_freshen_7 : decode cX8_freshen 7 = .ok (.return_, 1) := by decide +kernel
theorem dX8_freshen_8 : decode cX8_freshen 8 = .ok (.aload_n 0, 1) := by decide +kernel
theorem dX8_freshen_9 : decode cX8_freshen 9 = .ok (.iconst 1, 1) := by decide +kernel
theorem dX8_freshen_10 : decode cX8_freshen 10 = .ok (.putfield 119, 3) := by decide +kernel
theorem dX8_freshen_13 : decode cX8_freshen 13 = .ok (.iconst 0, 1) := by decide +kernel
theorem dX8_freshen_14 : decode cX8_freshen 14 = .ok (.istore_n 1, 1) := by decide +kernel
theorem dX8_freshen_15 : decode cX8_freshen 15 = .ok (.iload_n 1, 1) := by decide +kernel
theorem dX8_freshen_16 : decode cX8_freshen 16 = .ok (.bipush 48, 2) := by decide +kernel
theorem dX8_freshen_18 : decode cX8_freshen 18 = .ok (.if_icmp .ge 37, 3) := by decide +kernel
theorem dX8_freshen_21 : decode cX8_freshen 21 = .ok (.aload_n 0, 1) := by decide +kernel
theorem dX8_freshen_22 : decode cX8_freshen 22 = .ok (.getfield 50, 3) := by decide +kernel
theorem dX8_freshen_25 : decode cX8_freshen 25 = .ok (.iload_n 1, 1) := by decide +kernel
theorem dX8_freshen_26 : decode cX8_freshen 26 = .ok (.iload_n 1, 1) := by decide +kernel
theorem dX8_freshen_27 : decode cX8_freshen 27 = .ok (.aload_n 0, 1) := by decide +kernel
theorem dX8_freshen_28 : decode cX8_freshen 28 = .ok (.getfield 131, 3) := by decide +kernel
theorem dX8_freshen_31 : decode cX8_freshen 31 = .ok (.if_icmp .ge 16, 3) := by decide +kernel
theorem dX8_freshen_34 : decode cX8_freshen 34 = .ok (.aload_n 0, 1) := by decide +kernel
theorem dX8_freshen_35 : decode cX8_freshen 35 = .ok (.getfield 31, 3) := by decide +kernel
theorem dX8_freshen_38 : decode cX8_freshen 38 = .ok (.iload_n 1, 1) := by decide +kernel
theorem dX8_freshen_39 : decode cX8_freshen 39 = .ok (.baload, 1) := by decide +kernel
theorem dX8_freshen_40 : decode cX8_freshen 40 = .ok (.ifCond .eq 7, 3) := by decide +kernel
theorem dX8_freshen_43 : decode cX8_freshen 43 = .ok (.iconst 1, 1) := by decide +kernel
theorem dX8_freshen_44 : decode cX8_freshen 44 = .ok (.goto 4, 3) := by decide +kernel
theorem dX8_freshen_47 : decode cX8_freshen 47 = .ok (.iconst 0, 1) := by decide +kernel
theorem dX8_freshen_48 : decode cX8_freshen 48 = .ok (.bastore, 1) := by decide +kernel
theorem dX8_freshen_49 : decode cX8_freshen 49 = .ok (.iinc 1 1, 3) := by decide +kernel
theorem dX8_freshen_52 : decode cX8_freshen 52 = .ok (.goto (-37), 3) := by decide +kernel
theorem dX8_freshen_55 : decode cX8_freshen 55 = .ok (.iconst 0, 1) := by decide +kernel
theorem dX8_freshen_56 : decode cX8_freshen 56 = .ok (.istore_n 1, 1) := by decide +kernel
theorem dX8_freshen_57 : decode cX8_freshen 57 = .ok (.iload_n 1, 1) := by decide +kernel
theorem dX8_freshen_58 : decode cX8_freshen 58 = .ok (.bipush 16, 2) := by decide +kernel
theorem dX8_freshen_60 : decode cX8_freshen 60 = .ok (.if_icmp .ge 23, 3) := by decide +kernel
theorem dX8_freshen_63 : decode cX8_freshen 63 = .ok (.aload_n 0, 1) := by decide +kernel
theorem dX8_freshen_64 : decode cX8_freshen 64 = .ok (.getfield 53, 3) := by decide +kernel
theorem dX8_freshen_67 : decode cX8_freshen 67 = .ok (.iload_n 1, 1) := by decide +kernel
theorem dX8_freshen_68 : decode cX8_freshen 68 = .ok (.iconst 0, 1) := by decide +kernel
theorem dX8_freshen_69 : decode cX8_freshen 69 = .ok (.bastore, 1) := by decide +kernel
theorem dX8_freshen_70 : decode cX8_freshen 70 = .ok (.aload_n 0, 1) := by decide +kernel
theorem dX8_freshen_71 : decode cX8_freshen 71 = .ok (.getfield 56, 3) := by decide +kernel
theorem dX8_freshen_74 : decode cX8_freshen 74 = .ok (.iload_n 1, 1) := by decide +kernel
theorem dX8_freshen_75 : decode cX8_freshen 75 = .ok (.iconst 0, 1) := by decide +kernel
theorem dX8_freshen_76 : decode cX8_freshen 76 = .ok (.bastore, 1) := by decide +kernel
theorem dX8_freshen_77 : decode cX8_freshen 77 = .ok (.iinc 1 1, 3) := by decide +kernel
theorem dX8_freshen_80 : decode cX8_freshen 80 = .ok (.goto (-23), 3) := by decide +kernel
theorem dX8_freshen_83 : decode cX8_freshen 83 = .ok (.iconst 0, 1) := by decide +kernel
theorem dX8_freshen_84 : decode cX8_freshen 84 = .ok (.istore_n 1, 1) := by decide +kernel
theorem dX8_freshen_85 : decode cX8_freshen 85 = .ok (.iload_n 1, 1) := by decide +kernel
theorem dX8_freshen_86 : decode cX8_freshen 86 = .ok (.sipush 192, 3) := by decide +kernel
theorem dX8_freshen_89 : decode cX8_freshen 89 = .ok (.if_icmp .ge 16, 3) := by decide +kernel
theorem dX8_freshen_92 : decode cX8_freshen 92 = .ok (.aload_n 0, 1) := by decide +kernel
theorem dX8_freshen_93 : decode cX8_freshen 93 = .ok (.getfield 59, 3) := by decide +kernel
theorem dX8_freshen_96 : decode cX8_freshen 96 = .ok (.iload_n 1, 1) := by decide +kernel
theorem dX8_freshen_97 : decode cX8_freshen 97 = .ok (.iconst 0, 1) := by decide +kernel
theorem dX8_freshen_98 : decode cX8_freshen 98 = .ok (.bastore, 1) := by decide +kernel
theorem dX8_freshen_99 : decode cX8_freshen 99 = .ok (.iinc 1 1, 3) := by decide +kernel
theorem dX8_freshen_102 : decode cX8_freshen 102 = .ok (.goto (-17), 3) := by decide +kernel
theorem dX8_freshen_105 : decode cX8_freshen 105 = .ok (.iconst 0, 1) := by decide +kernel
theorem dX8_freshen_106 : decode cX8_freshen 106 = .ok (.istore_n 1, 1) := by decide +kernel
theorem dX8_freshen_107 : decode cX8_freshen 107 = .ok (.iload_n 1, 1) := by decide +kernel
theorem dX8_freshen_108 : decode cX8_freshen 108 = .ok (.sipush 7680, 3) := by decide +kernel
theorem dX8_freshen_111 : decode cX8_freshen 111 = .ok (.if_icmp .ge 16, 3) := by decide +kernel
theorem dX8_freshen_114 : decode cX8_freshen 114 = .ok (.aload_n 0, 1) := by decide +kernel
theorem dX8_freshen_115 : decode cX8_freshen 115 = .ok (.getfield 62, 3) := by decide +kernel
theorem dX8_freshen_118 : decode cX8_freshen 118 = .ok (.iload_n 1, 1) := by decide +kernel
theorem dX8_freshen_119 : decode cX8_freshen 119 = .ok (.iconst 0, 1) := by decide +kernel
theorem dX8_freshen_120 : decode cX8_freshen 120 = .ok (.bastore, 1) := by decide +kernel
theorem dX8_freshen_121 : decode cX8_freshen 121 = .ok (.iinc 1 1, 3) := by decide +kernel
theorem dX8_freshen_124 : decode cX8_freshen 124 = .ok (.goto (-17), 3) := by decide +kernel
theorem dX8_freshen_127 : decode cX8_freshen 127 = .ok (.iconst 0, 1) := by decide +kernel
theorem dX8_freshen_128 : decode cX8_freshen 128 = .ok (.istore_n 1, 1) := by decide +kernel
theorem dX8_freshen_129 : decode cX8_freshen 129 = .ok (.iload_n 1, 1) := by decide +kernel
theorem dX8_freshen_130 : decode cX8_freshen 130 = .ok (.sipush 640, 3) := by decide +kernel
theorem dX8_freshen_133 : decode cX8_freshen 133 = .ok (.if_icmp .ge 16, 3) := by decide +kernel
theorem dX8_freshen_136 : decode cX8_freshen 136 = .ok (.aload_n 0, 1) := by decide +kernel
theorem dX8_freshen_137 : decode cX8_freshen 137 = .ok (.getfield 65, 3) := by decide +kernel
theorem dX8_freshen_140 : decode cX8_freshen 140 = .ok (.iload_n 1, 1) := by decide +kernel
theorem dX8_freshen_141 : decode cX8_freshen 141 = .ok (.iconst 0, 1) := by decide +kernel
theorem dX8_freshen_142 : decode cX8_freshen 142 = .ok (.iastore, 1) := by decide +kernel
theorem dX8_freshen_143 : decode cX8_freshen 143 = .ok (.iinc 1 1, 3) := by decide +kernel
theorem dX8_freshen_146 : decode cX8_freshen 146 = .ok (.goto (-17), 3) := by decide +kernel
theorem dX8_freshen_149 : decode cX8_freshen 149 = .ok (.aload_n 0, 1) := by decide +kernel
theorem dX8_freshen_150 : decode cX8_freshen 150 = .ok (.iconst 1, 1) := by decide +kernel
theorem dX8_freshen_151 : decode cX8_freshen 151 = .ok (.putfield 186, 3) := by decide +kernel
theorem dX8_freshen_154 : decode cX8_freshen 154 = .ok (.aload_n 0, 1) := by decide +kernel
theorem dX8_freshen_155 : decode cX8_freshen 155 = .ok (.getfield 186, 3) := by decide +kernel
theorem dX8_freshen_158 : decode cX8_freshen 158 = .ok (.ifCond .eq 69, 3) := by decide +kernel
theorem dX8_freshen_161 : decode cX8_freshen 161 = .ok (.aload_n 0, 1) := by decide +kernel
theorem dX8_freshen_162 : decode cX8_freshen 162 = .ok (.iconst 0, 1) := by decide +kernel
theorem dX8_freshen_163 : decode cX8_freshen 163 = .ok (.putfield 186, 3) := by decide +kernel
theorem dX8_freshen_166 : decode cX8_freshen 166 = .ok (.iconst 0, 1) := by decide +kernel
theorem dX8_freshen_167 : decode cX8_freshen 167 = .ok (.istore_n 1, 1) := by decide +kernel
theorem dX8_freshen_168 : decode cX8_freshen 168 = .ok (.iload_n 1, 1) := by decide +kernel
theorem dX8_freshen_169 : decode cX8_freshen 169 = .ok (.aload_n 0, 1) := by decide +kernel
theorem dX8_freshen_170 : decode cX8_freshen 170 = .ok (.getfield 131, 3) := by decide +kernel
theorem dX8_freshen_173 : decode cX8_freshen 173 = .ok (.if_icmp .ge 51, 3) := by decide +kernel
theorem dX8_freshen_176 : decode cX8_freshen 176 = .ok (.iconst 0, 1) := by decide +kernel
theorem dX8_freshen_177 : decode cX8_freshen 177 = .ok (.istore_n 2, 1) := by decide +kernel
theorem dX8_freshen_178 : decode cX8_freshen 178 = .ok (.iload_n 2, 1) := by decide +kernel
theorem dX8_freshen_179 : decode cX8_freshen 179 = .ok (.aload_n 0, 1) := by decide +kernel
theorem dX8_freshen_180 : decode cX8_freshen 180 = .ok (.getfield 35, 3) := by decide +kernel
theorem dX8_freshen_183 : decode cX8_freshen 183 = .ok (.iload_n 1, 1) := by decide +kernel
theorem dX8_freshen_184 : decode cX8_freshen 184 = .ok (.iaload, 1) := by decide +kernel
theorem dX8_freshen_185 : decode cX8_freshen 185 = .ok (.if_icmp .ge 33, 3) := by decide +kernel
theorem dX8_freshen_188 : decode cX8_freshen 188 = .ok (.aload_n 0, 1) := by decide +kernel
theorem dX8_freshen_189 : decode cX8_freshen 189 = .ok (.getfield 50, 3) := by decide +kernel
theorem dX8_freshen_192 : decode cX8_freshen 192 = .ok (.iload_n 1, 1) := by decide +kernel
theorem dX8_freshen_193 : decode cX8_freshen 193 = .ok (.baload, 1) := by decide +kernel
theorem dX8_freshen_194 : decode cX8_freshen 194 = .ok (.ifCond .eq 24, 3) := by decide +kernel
theorem dX8_freshen_197 : decode cX8_freshen 197 = .ok (.aload_n 0, 1) := by decide +kernel
theorem dX8_freshen_198 : decode cX8_freshen 198 = .ok (.aload_n 0, 1) := by decide +kernel
theorem dX8_freshen_199 : decode cX8_freshen 199 = .ok (.getfield 38, 3) := by decide +kernel
theorem dX8_freshen_202 : decode cX8_freshen 202 = .ok (.bipush 24, 2) := by decide +kernel
theorem dX8_freshen_204 : decode cX8_freshen 204 = .ok (.iload_n 1, 1) := by decide +kernel
theorem dX8_freshen_205 : decode cX8_freshen 205 = .ok (.imul, 1) := by decide +kernel
theorem dX8_freshen_206 : decode cX8_freshen 206 = .ok (.iload_n 2, 1) := by decide +kernel
theorem dX8_freshen_207 : decode cX8_freshen 207 = .ok (.iadd, 1) := by decide +kernel
theorem dX8_freshen_208 : decode cX8_freshen 208 = .ok (.iaload, 1) := by decide +kernel
theorem dX8_freshen_209 : decode cX8_freshen 209 = .ok (.invokevirtual 208, 3) := by decide +kernel
theorem dX8_freshen_212 : decode cX8_freshen 212 = .ok (.iinc 2 1, 3) := by decide +kernel
theorem dX8_freshen_215 : decode cX8_freshen 215 = .ok (.goto (-37), 3) := by decide +kernel
theorem dX8_freshen_218 : decode cX8_freshen 218 = .ok (.iinc 1 1, 3) := by decide +kernel
theorem dX8_freshen_221 : decode cX8_freshen 221 = .ok (.goto (-53), 3) := by decide +kernel
theorem dX8_freshen_224 : decode cX8_freshen 224 = .ok (.goto (-70), 3) := by decide +kernel
theorem dX8_freshen_227 : decode cX8_freshen 227 = .ok (.aload_n 0, 1) := by decide +kernel
theorem dX8_freshen_228 : decode cX8_freshen 228 = .ok (.invokevirtual 211, 3) := by decide +kernel
theorem dX8_freshen_231 : decode cX8_freshen 231 = .ok (.return_, 1) := by decide +kernel
theorem dX8_isCallee_0 : decode cX8_isCallee 0 = .ok (.aload_n 0, 1) := by decide +kernel
theorem dX8_isCallee_1 : decode cX8_isCallee 1 = .ok (.getfield 86, 3) := by decide +kernel
theorem dX8_isCallee_4 : decode cX8_isCallee 4 = .ok (.bipush 48, 2) := by decide +kernel
theorem dX8_isCallee_6 : decode cX8_isCallee 6 = .ok (.iload_n 1, 1) := by decide +kernel
theorem dX8_isCallee_7 : decode cX8_isCallee 7 = .ok (.imul, 1) := by decide +kernel
theorem dX8_isCallee_8 : decode cX8_isCallee 8 = .ok (.iload_n 2, 1) := by decide +kernel
theorem dX8_isCallee_9 : decode cX8_isCallee 9 = .ok (.iadd, 1) := by decide +kernel
theorem dX8_isCallee_10 : decode cX8_isCallee 10 = .ok (.baload, 1) := by decide +kernel
theorem dX8_isCallee_11 : decode cX8_isCallee 11 = .ok (.ireturn, 1) := by decide +kernel
theorem dX8_findComes_0 : decode cX8_findComes 0 = .ok (.iconst 0, 1) := by decide +kernel
theorem dX8_findComes_1 : decode cX8_findComes 1 = .ok (.istore_n 1, 1) := by decide +kernel
theorem dX8_findComes_2 : decode cX8_findComes 2 = .ok (.iload_n 1, 1) := by decide +kernel
theorem dX8_findComes_3 : decode cX8_findComes 3 = .ok (.aload_n 0, 1) := by decide +kernel
theorem dX8_findComes_4 : decode cX8_findComes 4 = .ok (.getfield 131, 3) := by decide +kernel
theorem dX8_findComes_7 : decode cX8_findComes 7 = .ok (.if_icmp .ge 115, 3) := by decide +kernel
theorem dX8_findComes_10 : decode cX8_findComes 10 = .ok (.iconst 0, 1) := by decide +kernel
theorem dX8_findComes_11 : decode cX8_findComes 11 = .ok (.istore_n 2, 1) := by decide +kernel
theorem dX8_findComes_12 : decode cX8_findComes 12 = .ok (.iload_n 2, 1) := by decide +kernel
theorem dX8_findComes_13 : decode cX8_findComes 13 = .ok (.aload_n 0, 1) := by decide +kernel
theorem dX8_findComes_14 : decode cX8_findComes 14 = .ok (.getfield 131, 3) := by decide +kernel
theorem dX8_findComes_17 : decode cX8_findComes 17 = .ok (.if_icmp .ge 99, 3) := by decide +kernel
theorem dX8_findComes_20 : decode cX8_findComes 20 = .ok (.iconst 0, 1) := by decide +kernel
theorem dX8_findComes_21 : decode cX8_findComes 21 = .ok (.istore_n 3, 1) := by decide +kernel
theorem dX8_findComes_22 : decode cX8_findComes 22 = .ok (.iconst 0, 1) := by decide +kernel
theorem dX8_findComes_23 : decode cX8_findComes 23 = .ok (.istore 4, 2) := by decide +kernel
theorem dX8_findComes_25 : decode cX8_findComes 25 = .ok (.iload 4, 2) := by decide +kernel
theorem dX8_findComes_27 : decode cX8_findComes 27 = .ok (.aload_n 0, 1) := by decide +kernel
theorem dX8_findComes_28 : decode cX8_findComes 28 = .ok (.getfield 35, 3) := by decide +kernel
theorem dX8_findComes_31 : decode cX8_findComes 31 = .ok (.iload_n 1, 1) := by decide +kernel
theorem dX8_findComes_32 : decode cX8_findComes 32 = .ok (.iaload, 1) := by decide +kernel
theorem dX8_findComes_33 : decode cX8_findComes 33 = .ok (.if_icmp .ge 53, 3) := by decide +kernel
theorem dX8_findComes_36 : decode cX8_findComes 36 = .ok (.aload_n 0, 1) := by decide +kernel
theorem dX8_findComes_37 : decode cX8_findComes 37 = .ok (.getfield 50, 3) := by decide +kernel
theorem dX8_findComes_40 : decode cX8_findComes 40 = .ok (.iload_n 1, 1) := by decide +kernel
theorem dX8_findComes_41 : decode cX8_findComes 41 = .ok (.baload, 1) := by decide +kernel
theorem dX8_findComes_42 : decode cX8_findComes 42 = .ok (.ifCond .eq 44, 3) := by decide +kernel
theorem dX8_findComes_45 : decode cX8_findComes 45 = .ok (.iload_n 3, 1) := by decide +kernel
theorem dX8_findComes_46 : decode cX8_findComes 46 = .ok (.ifCond .ne 28, 3) := by decide +kernel
theorem dX8_findComes_49 : decode cX8_findComes 49 = .ok (.aload_n 0, 1) := by decide +kernel
theorem dX8_findComes_50 : decode cX8_findComes 50 = .ok (.getfield 62, 3) := by decide +kernel
theorem dX8_findComes_53 : decode cX8_findComes 53 = .ok (.bipush 48, 2) := by decide +kernel
theorem dX8_findComes_55 : decode cX8_findComes 55 = .ok (.aload_n 0, 1) := by decide +kernel
theorem dX8_findComes_56 : decode cX8_findComes 56 = .ok (.getfield 38, 3) := by decide +kernel
theorem dX8_findComes_59 : decode cX8_findComes 59 = .ok (.bipush 24, 2) := by decide +kernel
theorem dX8_findComes_61 : decode cX8_findComes 61 = .ok (.iload_n 1, 1) := by decide +kernel
theorem dX8_findComes_62 : decode cX8_findComes 62 = .ok (.imul, 1) := by decide +kernel
theorem dX8_findComes_63 : decode cX8_findComes 63 = .ok (.iload 4, 2) := by decide +kernel
theorem dX8_findComes_65 : decode cX8_findComes 65 = .ok (.iadd, 1) := by decide +kernel
theorem dX8_findComes_66 : decode cX8_findComes 66 = .ok (.iaload, 1) := by decide +kernel
theorem dX8_findComes_67 : decode cX8_findComes 67 = .ok (.imul, 1) := by decide +kernel
theorem dX8_findComes_68 : decode cX8_findComes 68 = .ok (.iload_n 2, 1) := by decide +kernel
theorem dX8_findComes_69 : decode cX8_findComes 69 = .ok (.iadd, 1) := by decide +kernel
theorem dX8_findComes_70 : decode cX8_findComes 70 = .ok (.baload, 1) := by decide +kernel
theorem dX8_findComes_71 : decode cX8_findComes 71 = .ok (.ifCond .eq 7, 3) := by decide +kernel
theorem dX8_findComes_74 : decode cX8_findComes 74 = .ok (.iconst 1, 1) := by decide +kernel
theorem dX8_findComes_75 : decode cX8_findComes 75 = .ok (.goto 4, 3) := by decide +kernel
theorem dX8_findComes_78 : decode cX8_findComes 78 = .ok (.iconst 0, 1) := by decide +kernel
theorem dX8_findComes_79 : decode cX8_findComes 79 = .ok (.istore_n 3, 1) := by decide +kernel
theorem dX8_findComes_80 : decode cX8_findComes 80 = .ok (.iinc 4 1, 3) := by decide +kernel
theorem dX8_findComes_83 : decode cX8_findComes 83 = .ok (.goto (-58), 3) := by decide +kernel
theorem dX8_findComes_86 : decode cX8_findComes 86 = .ok (.aload_n 0, 1) := by decide +kernel
theorem dX8_findComes_87 : decode cX8_findComes 87 = .ok (.getfield 86, 3) := by decide +kernel
theorem dX8_findComes_90 : decode cX8_findComes 90 = .ok (.bipush 48, 2) := by decide +kernel
theorem dX8_findComes_92 : decode cX8_findComes 92 = .ok (.iload_n 1, 1) := by decide +kernel
theorem dX8_findComes_93 : decode cX8_findComes 93 = .ok (.imul, 1) := by decide +kernel
theorem dX8_findComes_94 : decode cX8_findComes 94 = .ok (.iload_n 2, 1) := by decide +kernel
theorem dX8_findComes_95 : decode cX8_findComes 95 = .ok (.iadd, 1) := by decide +kernel
theorem dX8_findComes_96 : decode cX8_findComes 96 = .ok (.iload_n 3, 1) := by decide +kernel
theorem dX8_findComes_97 : decode cX8_findComes 97 = .ok (.bastore, 1) := by decide +kernel
theorem dX8_findComes_98 : decode cX8_findComes 98 = .ok (.aload_n 0, 1) := by decide +kernel
theorem dX8_findComes_99 : decode cX8_findComes 99 = .ok (.getfield 83, 3) := by decide +kernel
theorem dX8_findComes_102 : decode cX8_findComes 102 = .ok (.bipush 48, 2) := by decide +kernel
theorem dX8_findComes_104 : decode cX8_findComes 104 = .ok (.iload_n 1, 1) := by decide +kernel
theorem dX8_findComes_105 : decode cX8_findComes 105 = .ok (.imul, 1) := by decide +kernel
theorem dX8_findComes_106 : decode cX8_findComes 106 = .ok (.iload_n 2, 1) := by decide +kernel
theorem dX8_findComes_107 : decode cX8_findComes 107 = .ok (.iadd, 1) := by decide +kernel
theorem dX8_findComes_108 : decode cX8_findComes 108 = .ok (.iload_n 3, 1) := by decide +kernel
theorem dX8_findComes_109 : decode cX8_findComes 109 = .ok (.bastore, 1) := by decide +kernel
theorem dX8_findComes_110 : decode cX8_findComes 110 = .ok (.iinc 2 1, 3) := by decide +kernel
theorem dX8_findComes_113 : decode cX8_findComes 113 = .ok (.goto (-101), 3) := by decide +kernel
theorem dX8_findComes_116 : decode cX8_findComes 116 = .ok (.iinc 1 1, 3) := by decide +kernel
theorem dX8_findComes_119 : decode cX8_findComes 119 = .ok (.goto (-117), 3) := by decide +kernel
theorem dX8_findComes_122 : decode cX8_findComes 122 = .ok (.iconst 0, 1) := by decide +kernel
theorem dX8_findComes_123 : decode cX8_findComes 123 = .ok (.istore_n 1, 1) := by decide +kernel
theorem dX8_findComes_124 : decode cX8_findComes 124 = .ok (.iload_n 1, 1) := by decide +kernel
theorem dX8_findComes_125 : decode cX8_findComes 125 = .ok (.aload_n 0, 1) := by decide +kernel
theorem dX8_findComes_126 : decode cX8_findComes 126 = .ok (.getfield 131, 3) := by decide +kernel
theorem dX8_findComes_129 : decode cX8_findComes 129 = .ok (.if_icmp .ge 99, 3) := by decide +kernel
theorem dX8_findComes_132 : decode cX8_findComes 132 = .ok (.iconst 0, 1) := by decide +kernel
theorem dX8_findComes_133 : decode cX8_findComes 133 = .ok (.istore_n 2, 1) := by decide +kernel
theorem dX8_findComes_134 : decode cX8_findComes 134 = .ok (.iload_n 2, 1) := by decide +kernel
theorem dX8_findComes_135 : decode cX8_findComes 135 = .ok (.aload_n 0, 1) := by decide +kernel
theorem dX8_findComes_136 : decode cX8_findComes 136 = .ok (.getfield 131, 3) := by decide +kernel
theorem dX8_findComes_139 : decode cX8_findComes 139 = .ok (.if_icmp .ge 83, 3) := by decide +kernel
theorem dX8_findComes_142 : decode cX8_findComes 142 = .ok (.iconst 0, 1) := by decide +kernel
theorem dX8_findComes_143 : decode cX8_findComes 143 = .ok (.istore_n 3, 1) := by decide +kernel
theorem dX8_findComes_144 : decode cX8_findComes 144 = .ok (.iload_n 3, 1) := by decide +kernel
theorem dX8_findComes_145 : decode cX8_findComes 145 = .ok (.aload_n 0, 1) := by decide +kernel
theorem dX8_findComes_146 : decode cX8_findComes 146 = .ok (.getfield 131, 3) := by decide +kernel
theorem dX8_findComes_149 : decode cX8_findComes 149 = .ok (.if_icmp .ge 67, 3) := by decide +kernel
theorem dX8_findComes_152 : decode cX8_findComes 152 = .ok (.aload_n 0, 1) := by decide +kernel
theorem dX8_findComes_153 : decode cX8_findComes 153 = .ok (.getfield 83, 3) := by decide +kernel
theorem dX8_findComes_156 : decode cX8_findComes 156 = .ok (.bipush 48, 2) := by decide +kernel
theorem dX8_findComes_158 : decode cX8_findComes 158 = .ok (.iload_n 2, 1) := by decide +kernel
theorem dX8_findComes_159 : decode cX8_findComes 159 = .ok (.imul, 1) := by decide +kernel
theorem dX8_findComes_160 : decode cX8_findComes 160 = .ok (.iload_n 1, 1) := by decide +kernel
theorem dX8_findComes_161 : decode cX8_findComes 161 = .ok (.iadd, 1) := by decide +kernel
theorem dX8_findComes_162 : decode cX8_findComes 162 = .ok (.baload, 1) := by decide +kernel
theorem dX8_findComes_163 : decode cX8_findComes 163 = .ok (.ifCond .eq 53, 3) := by decide +kernel
theorem dX8_findComes_166 : decode cX8_findComes 166 = .ok (.aload_n 0, 1) := by decide +kernel
theorem dX8_findComes_167 : decode cX8_findComes 167 = .ok (.getfield 83, 3) := by decide +kernel
theorem dX8_findComes_170 : decode cX8_findComes 170 = .ok (.bipush 48, 2) := by decide +kernel
theorem dX8_findComes_172 : decode cX8_findComes 172 = .ok (.iload_n 2, 1) := by decide +kernel
theorem dX8_findComes_173 : decode cX8_findComes 173 = .ok (.imul, 1) := by decide +kernel
theorem dX8_findComes_174 : decode cX8_findComes 174 = .ok (.iload_n 3, 1) := by decide +kernel
theorem dX8_findComes_175 : decode cX8_findComes 175 = .ok (.iadd, 1) := by decide +kernel
theorem dX8_findComes_176 : decode cX8_findComes 176 = .ok (.aload_n 0, 1) := by decide +kernel
theorem dX8_findComes_177 : decode cX8_findComes 177 = .ok (.getfield 83, 3) := by decide +kernel
theorem dX8_findComes_180 : decode cX8_findComes 180 = .ok (.bipush 48, 2) := by decide +kernel
theorem dX8_findComes_182 : decode cX8_findComes 182 = .ok (.iload_n 2, 1) := by decide +kernel
theorem dX8_findComes_183 : decode cX8_findComes 183 = .ok (.imul, 1) := by decide +kernel
theorem dX8_findComes_184 : decode cX8_findComes 184 = .ok (.iload_n 3, 1) := by decide +kernel
theorem dX8_findComes_185 : decode cX8_findComes 185 = .ok (.iadd, 1) := by decide +kernel
theorem dX8_findComes_186 : decode cX8_findComes 186 = .ok (.baload, 1) := by decide +kernel
theorem dX8_findComes_187 : decode cX8_findComes 187 = .ok (.ifCond .ne 17, 3) := by decide +kernel
theorem dX8_findComes_190 : decode cX8_findComes 190 = .ok (.aload_n 0, 1) := by decide +kernel
theorem dX8_findComes_191 : decode cX8_findComes 191 = .ok (.getfield 83, 3) := by decide +kernel
theorem dX8_findComes_194 : decode cX8_findComes 194 = .ok (.bipush 48, 2) := by decide +kernel
theorem dX8_findComes_196 : decode cX8_findComes 196 = .ok (.iload_n 1, 1) := by decide +kernel
theorem dX8_findComes_197 : decode cX8_findComes 197 = .ok (.imul, 1) := by decide +kernel
theorem dX8_findComes_198 : decode cX8_findComes 198 = .ok (.iload_n 3, 1) := by decide +kernel
theorem dX8_findComes_199 : decode cX8_findComes 199 = .ok (.iadd, 1) := by decide +kernel
theorem dX8_findComes_200 : decode cX8_findComes 200 = .ok (.baload, 1) := by decide +kernel
theorem dX8_findComes_201 : decode cX8_findComes 201 = .ok (.ifCond .eq 7, 3) := by decide +kernel
theorem dX8_findComes_204 : decode cX8_findComes 204 = .ok (.iconst 1, 1) := by decide +kernel
theorem dX8_findComes_205 : decode cX8_findComes 205 = .ok (.goto 4, 3) := by decide +kernel
theorem dX8_findComes_208 : decode cX8_findComes 208 = .ok (.iconst 0, 1) := by decide +kernel
theorem dX8_findComes_209 : decode cX8_findComes 209 = .ok (.bastore, 1) := by decide +kernel
theorem dX8_findComes_210 : decode cX8_findComes 210 = .ok (.iinc 3 1, 3) := by decide +kernel
theorem dX8_findComes_213 : decode cX8_findComes 213 = .ok (.goto (-69), 3) := by decide +kernel
theorem dX8_findComes_216 : decode cX8_findComes 216 = .ok (.iinc 2 1, 3) := by decide +kernel
theorem dX8_findComes_219 : decode cX8_findComes 219 = .ok (.goto (-85), 3) := by decide +kernel
theorem dX8_findComes_222 : decode cX8_findComes 222 = .ok (.iinc 1 1, 3) := by decide +kernel
theorem dX8_findComes_225 : decode cX8_findComes 225 = .ok (.goto (-101), 3) := by decide +kernel
theorem dX8_findComes_228 : decode cX8_findComes 228 = .ok (.return_, 1) := by decide +kernel
theorem dX8_isRecursive_0 : decode cX8_isRecursive 0 = .ok (.aload_n 0, 1) := by decide +kernel
theorem dX8_isRecursive_1 : decode cX8_isRecursive 1 = .ok (.getfield 50, 3) := by decide +kernel
theorem dX8_isRecursive_4 : decode cX8_isRecursive 4 = .ok (.iload_n 1, 1) := by decide +kernel
theorem dX8_isRecursive_5 : decode cX8_isRecursive 5 = .ok (.baload, 1) := by decide +kernel
theorem dX8_isRecursive_6 : decode cX8_isRecursive 6 = .ok (.ifCond .eq 21, 3) := by decide +kernel
theorem dX8_isRecursive_9 : decode cX8_isRecursive 9 = .ok (.aload_n 0, 1) := by decide +kernel
theorem dX8_isRecursive_10 : decode cX8_isRecursive 10 = .ok (.getfield 83, 3) := by decide +kernel
theorem dX8_isRecursive_13 : decode cX8_isRecursive 13 = .ok (.bipush 48, 2) := by decide +kernel
theorem dX8_isRecursive_15 : decode cX8_isRecursive 15 = .ok (.iload_n 1, 1) := by decide +kernel
theorem dX8_isRecursive_16 : decode cX8_isRecursive 16 = .ok (.imul, 1) := by decide +kernel
theorem dX8_isRecursive_17 : decode cX8_isRecursive 17 = .ok (.iload_n 1, 1) := by decide +kernel
theorem dX8_isRecursive_18 : decode cX8_isRecursive 18 = .ok (.iadd, 1) := by decide +kernel
theorem dX8_isRecursive_19 : decode cX8_isRecursive 19 = .ok (.baload, 1) := by decide +kernel
theorem dX8_isRecursive_20 : decode cX8_isRecursive 20 = .ok (.ifCond .eq 7, 3) := by decide +kernel
theorem dX8_isRecursive_23 : decode cX8_isRecursive 23 = .ok (.iconst 1, 1) := by decide +kernel
theorem dX8_isRecursive_24 : decode cX8_isRecursive 24 = .ok (.goto 4, 3) := by decide +kernel
theorem dX8_isRecursive_27 : decode cX8_isRecursive 27 = .ok (.iconst 0, 1) := by decide +kernel
theorem dX8_isRecursive_28 : decode cX8_isRecursive 28 = .ok (.ireturn, 1) := by decide +kernel
set_option maxRecDepth 20000 in
theorem ggX8_isRing_X8_isRecursive : GoodIn wsX8_isRing wsX8_isRecursive := goodIn_r _ [6, 7, 1, 8, 9, 10, 11, 12, 13, 14, 15, 16, 17, 18, 19, 20, 21, 22, 23, 24, 25, 26, 27, 28, 29, 30, 31, 32, 33, 34, 35, 36, 37, 38, 39, 40, 41, 42, 43, 44, 45, 46, 47, 48, 49, 50, 51, 52, 53, 54, 55, 56, 57] rfl (by decide +kernel)
set_option maxRecDepth 20000 in
theorem gX8_isRing_X8_isRecursive : GoodIn wsX8_isRing (wsV RX8 214 RX8 yX8_isRecursive wsX8_isRecursive) := goodIn_app (goodIn_of _ (by decide +kernel)) ggX8_isRing_X8_isRecursive
theorem dX8_isRing_0 : decode cX8_isRing 0 = .ok (.aload_n 0, 1) := by decide +kernel
theorem dX8_isRing_1 : decode cX8_isRing 1 = .ok (.iload_n 1, 1) := by decide +kernel
theorem dX8_isRing_2 : decode cX8_isRing 2 = .ok (.invokevirtual 214, 3) := by decide +kernel
theorem dX8_isRing_5 : decode cX8_isRing 5 = .ok (.ifCond .eq 35, 3) := by decide +kernel
theorem dX8_isRing_8 : decode cX8_isRing 8 = .ok (.aload_n 0, 1) := by decide +kernel
theorem dX8_isRing_9 : decode cX8_isRing 9 = .ok (.getfield 83, 3) := by decide +kernel
theorem dX8_isRing_12 : decode cX8_isRing 12 = .ok (.bipush 48, 2) := by decide +kernel
theorem dX8_isRing_14 : decode cX8_isRing 14 = .ok (.iload_n 1, 1) := by decide +kernel
theorem dX8_isRing_15 : decode cX8_isRing 15 = .ok (.imul, 1) := by decide +kernel
theorem dX8_isRing_16 : decode cX8_isRing 16 = .ok (.iload_n 2, 1) := by decide +kernel
theorem dX8_isRing_17 : decode cX8_isRing 17 = .ok (.iadd, 1) := by decide +kernel
theorem dX8_isRing_18 : decode cX8_isRing 18 = .ok (.baload, 1) := by decide +kernel
theorem dX8_isRing_19 : decode cX8_isRing 19 = .ok (.ifCond .eq 21, 3) := by decide +kernel
theorem dX8_isRing_22 : decode cX8_isRing 22 = .ok (.aload_n 0, 1) := by decide +kernel
theorem dX8_isRing_23 : decode cX8_isRing 23 = .ok (.getfield 83, 3) := by decide +kernel
theorem dX8_isRing_26 : decode cX8_isRing 26 = .ok (.bipush 48, 2) := by decide +kernel
theorem dX8_isRing_28 : decode cX8_isRing 28 = .ok (.iload_n 2, 1) := by decide +kernel
theorem dX8_isRing_29 : decode cX8_isRing 29 = .ok (.imul, 1) := by decide +kernel
theorem dX8_isRing_30 : decode cX8_isRing 30 = .ok (.iload_n 1, 1) := by decide +kernel
theorem dX8_isRing_31 : decode cX8_isRing 31 = .ok (.iadd, 1) := by decide +kernel
theorem dX8_isRing_32 : decode cX8_isRing 32 = .ok (.baload, 1) := by decide +kernel
theorem dX8_isRing_33 : decode cX8_isRing 33 = .ok (.ifCond .eq 7, 3) := by decide +kernel
theorem dX8_isRing_36 : decode cX8_isRing 36 = .ok (.iconst 1, 1) := by decide +kernel
theorem dX8_isRing_37 : decode cX8_isRing 37 = .ok (.goto 4, 3) := by decide +kernel
theorem dX8_isRing_40 : decode cX8_isRing 40 = .ok (.iconst 0, 1) := by decide +kernel
theorem dX8_isRing_41 : decode cX8_isRing 41 = .ok (.ireturn, 1) := by decide +kernel
set_option maxRecDepth 20000 in
theorem ggX8_countIn_X8_isRecursive : GoodIn wsX8_countIn wsX8_isRecursive := goodIn_r _ [13, 3, 14, 15, 16, 17, 18, 19, 20, 21, 22, 23, 24, 25, 26, 27, 28, 29, 30, 31, 32, 33, 34, 35, 36, 37, 38, 39, 40, 41, 42, 43, 44, 45, 46, 47, 48, 49, 50, 51, 52, 53, 54, 55, 56, 57, 58, 59, 60, 61, 62, 63, 64] rfl (by decide +kernel)
set_option maxRecDepth 20000 in
theorem gX8_countIn_X8_isRecursive : GoodIn wsX8_countIn (wsV RX8 214 RX8 yX8_isRecursive wsX8_isRecursive) := goodIn_app (goodIn_of _ (by decide +kernel)) ggX8_countIn_X8_isRecursive
theorem dX8_countIn_0 : decode cX8_countIn 0 = .ok (.iconst 0, 1) := by decide +kernel
theorem dX8_countIn_1 : decode cX8_countIn 1 = .ok (.istore_n 2, 1) := by decide +kernel
theorem dX8_countIn_2 : decode cX8_countIn 2 = .ok (.iconst 0, 1) := by decide +kernel
theorem dX8_countIn_3 : decode cX8_countIn 3 = .ok (.istore_n 3, 1) := by decide +kernel
theorem dX8_countIn_4 : decode cX8_countIn 4 = .ok (.iload_n 3, 1) := by decide +kernel
theorem dX8_countIn_5 : decode cX8_countIn 5 = .ok (.aload_n 0, 1) := by decide +kernel
theorem dX8_countIn_6 : decode cX8_countIn 6 = .ok (.getfield 131, 3) := by decide +kernel
theorem dX8_countIn_9 : decode cX8_countIn 9 = .ok (.if_icmp .ge 59, 3) := by decide +kernel
theorem dX8_countIn_12 : decode cX8_countIn 12 = .ok (.iload_n 2, 1) := by decide +kernel
theorem dX8_countIn_13 : decode cX8_countIn 13 = .ok (.iload_n 1, 1) := by decide +kernel
theorem dX8_countIn_14 : decode cX8_countIn 14 = .ok (.iconst 3, 1) := by decide +kernel
theorem dX8_countIn_15 : decode cX8_countIn 15 = .ok (.if_icmp .ne 12, 3) := by decide +kernel
theorem dX8_countIn_18 : decode cX8_countIn 18 = .ok (.aload_n 0, 1) := by decide +kernel
theorem dX8_countIn_19 : decode cX8_countIn 19 = .ok (.getfield 31, 3) := by decide +kernel
theorem dX8_countIn_22 : decode cX8_countIn 22 = .ok (.iload_n 3, 1) := by decide +kernel
theorem dX8_countIn_23 : decode cX8_countIn 23 = .ok (.baload, 1) := by decide +kernel
theorem dX8_countIn_24 : decode cX8_countIn 24 = .ok (.ifCond .ne 31, 3) := by decide +kernel
theorem dX8_countIn_27 : decode cX8_countIn 27 = .ok (.iload_n 1, 1) := by decide +kernel
theorem dX8_countIn_28 : decode cX8_countIn 28 = .ok (.iconst 4, 1) := by decide +kernel
theorem dX8_countIn_29 : decode cX8_countIn 29 = .ok (.if_icmp .ne 12, 3) := by decide +kernel
theorem dX8_countIn_32 : decode cX8_countIn 32 = .ok (.aload_n 0, 1) := by decide +kernel
theorem dX8_countIn_33 : decode cX8_countIn 33 = .ok (.getfield 50, 3) := by decide +kernel
theorem dX8_countIn_36 : decode cX8_countIn 36 = .ok (.iload_n 3, 1) := by decide +kernel
theorem dX8_countIn_37 : decode cX8_countIn 37 = .ok (.baload, 1) := by decide +kernel
theorem dX8_countIn_38 : decode cX8_countIn 38 = .ok (.ifCond .ne 17, 3) := by decide +kernel
theorem dX8_countIn_41 : decode cX8_countIn 41 = .ok (.iload_n 1, 1) := by decide +kernel
theorem dX8_countIn_42 : decode cX8_countIn 42 = .ok (.bipush 9, 2) := by decide +kernel
theorem dX8_countIn_44 : decode cX8_countIn 44 = .ok (.if_icmp .ne 15, 3) := by decide +kernel
theorem dX8_countIn_47 : decode cX8_countIn 47 = .ok (.aload_n 0, 1) := by decide +kernel
theorem dX8_countIn_48 : decode cX8_countIn 48 = .ok (.iload_n 3, 1) := by decide +kernel
theorem dX8_countIn_49 : decode cX8_countIn 49 = .ok (.invokevirtual 214, 3) := by decide +kernel
theorem dX8_countIn_52 : decode cX8_countIn 52 = .ok (.ifCond .eq 7, 3) := by decide +kernel
theorem dX8_countIn_55 : decode cX8_countIn 55 = .ok (.iconst 1, 1) := by decide +kernel
theorem dX8_countIn_56 : decode cX8_countIn 56 = .ok (.goto 4, 3) := by decide +kernel
theorem dX8_countIn_59 : decode cX8_countIn 59 = .ok (.iconst 0, 1) := by decide +kernel
theorem dX8_countIn_60 : decode cX8_countIn 60 = .ok (.iadd, 1) := by decide +kernel
theorem dX8_countIn_61 : decode cX8_countIn 61 = .ok (.istore_n 2, 1) := by decide +kernel
theorem dX8_countIn_62 : decode cX8_countIn 62 = .ok (.iinc 3 1, 3) := by decide +kernel
theorem dX8_countIn_65 : decode cX8_countIn 65 = .ok (.goto (-61), 3) := by decide +kernel
theorem dX8_countIn_68 : decode cX8_countIn 68 = .ok (.iconst 0, 1) := by decide +kernel
theorem dX8_countIn_69 : decode cX8_countIn 69 = .ok (.istore_n 3, 1) := by decide +kernel
theorem dX8_countIn_70 : decode cX8_countIn 70 = .ok (.iload_n 3, 1) := by decide +kernel
theorem dX8_countIn_71 : decode cX8_countIn 71 = .ok (.aload_n 0, 1) := by decide +kernel
theorem dX8_countIn_72 : decode cX8_countIn 72 = .ok (.getfield 123, 3) := by decide +kernel
theorem dX8_countIn_75 : decode cX8_countIn 75 = .ok (.if_icmp .ge 46, 3) := by decide +kernel
theorem dX8_countIn_78 : decode cX8_countIn 78 = .ok (.iload_n 2, 1) := by decide +kernel
theorem dX8_countIn_79 : decode cX8_countIn 79 = .ok (.iload_n 1, 1) := by decide +kernel
theorem dX8_countIn_80 : decode cX8_countIn 80 = .ok (.iconst 5, 1) := by decide +kernel
theorem dX8_countIn_81 : decode cX8_countIn 81 = .ok (.if_icmp .ne 12, 3) := by decide +kernel
theorem dX8_countIn_84 : decode cX8_countIn 84 = .ok (.aload_n 0, 1) := by decide +kernel
theorem dX8_countIn_85 : decode cX8_countIn 85 = .ok (.getfield 53, 3) := by decide +kernel
theorem dX8_countIn_88 : decode cX8_countIn 88 = .ok (.iload_n 3, 1) := by decide +kernel
theorem dX8_countIn_89 : decode cX8_countIn 89 = .ok (.baload, 1) := by decide +kernel
theorem dX8_countIn_90 : decode cX8_countIn 90 = .ok (.ifCond .ne 18, 3) := by decide +kernel
theorem dX8_countIn_93 : decode cX8_countIn 93 = .ok (.iload_n 1, 1) := by decide +kernel
theorem dX8_countIn_94 : decode cX8_countIn 94 = .ok (.bipush 6, 2) := by decide +kernel
theorem dX8_countIn_96 : decode cX8_countIn 96 = .ok (.if_icmp .ne 16, 3) := by decide +kernel
theorem dX8_countIn_99 : decode cX8_countIn 99 = .ok (.aload_n 0, 1) := by decide +kernel
theorem dX8_countIn_100 : decode cX8_countIn 100 = .ok (.getfield 56, 3) := by decide +kernel
theorem dX8_countIn_103 : decode cX8_countIn 103 = .ok (.iload_n 3, 1) := by decide +kernel
theorem dX8_countIn_104 : decode cX8_countIn 104 = .ok (.baload, 1) := by decide +kernel
theorem dX8_countIn_105 : decode cX8_countIn 105 = .ok (.ifCond .eq 7, 3) := by decide +kernel
theorem dX8_countIn_108 : decode cX8_countIn 108 = .ok (.iconst 1, 1) := by decide +kernel
theorem dX8_countIn_109 : decode cX8_countIn 109 = .ok (.goto 4, 3) := by decide +kernel
theorem dX8_countIn_112 : decode cX8_countIn 112 = .ok (.iconst 0, 1) := by decide +kernel
theorem dX8_countIn_113 : decode cX8_countIn 113 = .ok (.iadd, 1) := by decide +kernel
theorem dX8_countIn_114 : decode cX8_countIn 114 = .ok (.istore_n 2, 1) := by decide +kernel
theorem dX8_countIn_115 : decode cX8_countIn 115 = .ok (.iinc 3 1, 3) := by decide +kernel
theorem dX8_countIn_118 : decode cX8_countIn 118 = .ok (.goto (-48), 3) := by decide +kernel
theorem dX8_countIn_121 : decode cX8_countIn 121 = .ok (.iconst 0, 1) := by decide +kernel
theorem dX8_countIn_122 : decode cX8_countIn 122 = .ok (.istore_n 3, 1) := by decide +kernel
theorem dX8_countIn_123 : decode cX8_countIn 123 = .ok (.iload_n 3, 1) := by decide +kernel
theorem dX8_countIn_124 : decode cX8_countIn 124 = .ok (.sipush 7680, 3) := by decide +kernel
theorem dX8_countIn_127 : decode cX8_countIn 127 = .ok (.if_icmp .ge 32, 3) := by decide +kernel
theorem dX8_countIn_130 : decode cX8_countIn 130 = .ok (.iload_n 1, 1) := by decide +kernel
theorem dX8_countIn_131 : decode cX8_countIn 131 = .ok (.bipush 7, 2) := by decide +kernel
theorem dX8_countIn_133 : decode cX8_countIn 133 = .ok (.if_icmp .ne 26, 3) := by decide +kernel
theorem dX8_countIn_136 : decode cX8_countIn 136 = .ok (.iload_n 2, 1) := by decide +kernel
theorem dX8_countIn_137 : decode cX8_countIn 137 = .ok (.aload_n 0, 1) := by decide +kernel
theorem dX8_countIn_138 : decode cX8_countIn 138 = .ok (.getfield 62, 3) := by decide +kernel
theorem dX8_countIn_141 : decode cX8_countIn 141 = .ok (.iload_n 3, 1) := by decide +kernel
theorem dX8_countIn_142 : decode cX8_countIn 142 = .ok (.baload, 1) := by decide +kernel
theorem dX8_countIn_143 : decode cX8_countIn 143 = .ok (.ifCond .eq 7, 3) := by decide +kernel
theorem dX8_countIn_146 : decode cX8_countIn 146 = .ok (.iconst 1, 1) := by decide +kernel
theorem dX8_countIn_147 : decode cX8_countIn 147 = .ok (.goto 4, 3) := by decide +kernel
theorem dX8_countIn_150 : decode cX8_countIn 150 = .ok (.iconst 0, 1) := by decide +kernel
theorem dX8_countIn_151 : decode cX8_countIn 151 = .ok (.iadd, 1) := by decide +kernel
theorem dX8_countIn_152 : decode cX8_countIn 152 = .ok (.istore_n 2, 1) := by decide +kernel
theorem dX8_countIn_153 : decode cX8_countIn 153 = .ok (.iinc 3 1, 3) := by decide +kernel
theorem dX8_countIn_156 : decode cX8_countIn 156 = .ok (.goto (-33), 3) := by decide +kernel
theorem dX8_countIn_159 : decode cX8_countIn 159 = .ok (.iconst 0, 1) := by decide +kernel
theorem dX8_countIn_160 : decode cX8_countIn 160 = .ok (.istore_n 3, 1) := by decide +kernel
theorem dX8_countIn_161 : decode cX8_countIn 161 = .ok (.iload_n 3, 1) := by decide +kernel
theorem dX8_countIn_162 : decode cX8_countIn 162 = .ok (.sipush 640, 3) := by decide +kernel
theorem dX8_countIn_165 : decode cX8_countIn 165 = .ok (.if_icmp .ge 24, 3) := by decide +kernel
theorem dX8_countIn_168 : decode cX8_countIn 168 = .ok (.iload_n 1, 1) := by decide +kernel
theorem dX8_countIn_169 : decode cX8_countIn 169 = .ok (.bipush 8, 2) := by decide +kernel
theorem dX8_countIn_171 : decode cX8_countIn 171 = .ok (.if_icmp .ne 18, 3) := by decide +kernel
theorem dX8_countIn_174 : decode cX8_countIn 174 = .ok (.iload_n 2, 1) := by decide +kernel
theorem dX8_countIn_175 : decode cX8_countIn 175 = .ok (.aload_n 0, 1) := by decide +kernel
theorem dX8_countIn_176 : decode cX8_countIn 176 = .ok (.getfield 65, 3) := by decide +kernel
theorem dX8_countIn_179 : decode cX8_countIn 179 = .ok (.iload_n 3, 1) := by decide +kernel
theorem dX8_countIn_180 : decode cX8_countIn 180 = .ok (.iaload, 1) := by decide +kernel
theorem dX8_countIn_181 : decode cX8_countIn 181 = .ok (.iadd, 1) := by decide +kernel
theorem dX8_countIn_182 : decode cX8_countIn 182 = .ok (.istore_n 2, 1) := by decide +kernel
theorem dX8_countIn_183 : decode cX8_countIn 183 = .ok (.iinc 3 1, 3) := by decide +kernel
theorem dX8_countIn_186 : decode cX8_countIn 186 = .ok (.goto (-25), 3) := by decide +kernel
theorem dX8_countIn_189 : decode cX8_countIn 189 = .ok (.iload_n 2, 1) := by decide +kernel
theorem dX8_countIn_190 : decode cX8_countIn 190 = .ok (.ireturn, 1) := by decide +kernel
set_option maxRecDepth 20000 in
theorem ggX8_count_X8_freshen : GoodIn wsX8_count wsX8_freshen := goodIn_r _ [8, 9, 10, 2, 11, 12, 13, 14, 15, 16, 17, 18, 19, 20, 21, 22, 7, 23, 24, 25, 26, 27, 28, 29, 30, 31, 32, 33, 1, 34, 35, 36, 37, 38, 39, 40, 41, 42, 43, 44, 45, 46, 47, 48, 49, 50, 51, 52, 53, 54, 55, 56, 57, 58, 59, 60, 61, 62, 63, 64, 65, 66, 67, 68, 69, 70, 71, 72, 73, 74, 75, 76, 77, 78, 79, 80, 81, 82, 83, 84, 85, 86, 87, 88, 89, 90, 91, 92, 93, 94, 95, 96, 97, 98, 99, 100, 101, 102, 103, 104, 116, 117, 118, 119, 120, 121, 122, 123, 124, 125, 126, 127, 128, 129, 130, 131, 132, 133, 134, 135, 136, 137, 138, 139, 140, 141, 142, 143, 144, 145, 146, 147, 148, 149, 150, 151, 152, 153, 154, 155, 156, 157, 158, 159, 160, 161, 162, 163, 164, 165] rfl (by decide +kernel)
set_option maxRecDepth 20000 in
theorem gX8_count_X8_freshen : GoodIn wsX8_count (wsV RX8 217 RX8 yX8_freshen wsX8_freshen) := goodIn_app (goodIn_of _ (by decide +kernel)) ggX8_count_X8_freshen
set_option maxRecDepth 20000 in
theorem ggX8_count_X8_in : GoodIn wsX8_count wsX8_in := goodIn_r _ [107] rfl (by decide +kernel)
set_option maxRecDepth 20000 in
theorem gX8_count_X8_in : GoodIn wsX8_count (va_wsS RX8 127 yX8_in wsX8_in) := goodIn_app (goodIn_of _ (by decide +kernel)) ggX8_count_X8_in
set_option maxRecDepth 20000 in
theorem ggX8_count_X8_countIn : GoodIn wsX8_count wsX8_countIn := goodIn_r _ [111, 2, 11, 10, 1, 12, 13, 15, 16, 112, 113, 114, 7, 115, 104, 116, 117, 118, 119, 120, 121, 122, 123, 124, 125, 126, 127, 128, 129, 130, 131, 132, 133, 134, 135, 136, 137, 138, 139, 140, 141, 142, 143, 144, 145, 146, 147, 148, 149, 150, 151, 152, 153, 154, 155, 156, 157, 158, 159, 160, 161, 162, 163, 164, 165] rfl (by decide +kernel)
set_option maxRecDepth 20000 in
theorem gX8_count_X8_countIn : GoodIn wsX8_count (wsV RX8 220 RX8 yX8_countIn wsX8_countIn) := goodIn_app (goodIn_of _ (by decide +kernel)) ggX8_count_X8_countIn
theorem dX8_count_0 : decode cX8_count 0 = .ok (.aload_n 0, 1) := by decide +kernel
theorem dX8_count_1 : decode cX8_count 1 = .ok (.invokevirtual 217, 3) := by decide +kernel
theorem dX8_count_4 : decode cX8_count 4 = .ok (.iload_n 1, 1) := by decide +kernel
theorem dX8_count_5 : decode cX8_count 5 = .ok (.ifCond .ne 10, 3) := by decide +kernel
theorem dX8_count_8 : decode cX8_count 8 = .ok (.aload_n 0, 1) := by decide +kernel
theorem dX8_count_9 : decode cX8_count 9 = .ok (.getfield 123, 3) := by decide +kernel
theorem dX8_count_12 : decode cX8_count 12 = .ok (.goto 47, 3) := by decide +kernel
theorem dX8_count_15 : decode cX8_count 15 = .ok (.iload_n 1, 1) := by decide +kernel
theorem dX8_count_16 : decode cX8_count 16 = .ok (.iconst 1, 1) := by decide +kernel
theorem dX8_count_17 : decode cX8_count 17 = .ok (.if_icmp .ne 10, 3) := by decide +kernel
theorem dX8_count_20 : decode cX8_count 20 = .ok (.aload_n 0, 1) := by decide +kernel
theorem dX8_count_21 : decode cX8_count 21 = .ok (.getfield 131, 3) := by decide +kernel
theorem dX8_count_24 : decode cX8_count 24 = .ok (.goto 35, 3) := by decide +kernel
theorem dX8_count_27 : decode cX8_count 27 = .ok (.iload_n 1, 1) := by decide +kernel
theorem dX8_count_28 : decode cX8_count 28 = .ok (.iconst 2, 1) := by decide +kernel
theorem dX8_count_29 : decode cX8_count 29 = .ok (.if_icmp .ne 10, 3) := by decide +kernel
theorem dX8_count_32 : decode cX8_count 32 = .ok (.aload_n 0, 1) := by decide +kernel
theorem dX8_count_33 : decode cX8_count 33 = .ok (.getfield 163, 3) := by decide +kernel
theorem dX8_count_36 : decode cX8_count 36 = .ok (.goto 23, 3) := by decide +kernel
theorem dX8_count_39 : decode cX8_count 39 = .ok (.iload_n 1, 1) := by decide +kernel
theorem dX8_count_40 : decode cX8_count 40 = .ok (.iconst 3, 1) := by decide +kernel
theorem dX8_count_41 : decode cX8_count 41 = .ok (.bipush 9, 2) := by decide +kernel
theorem dX8_count_43 : decode cX8_count 43 = .ok (.invokestatic 127, 3) := by decide +kernel
theorem dX8_count_46 : decode cX8_count 46 = .ok (.ifCond .eq 11, 3) := by decide +kernel
theorem dX8_count_49 : decode cX8_count 49 = .ok (.aload_n 0, 1) := by decide +kernel
theorem dX8_count_50 : decode cX8_count 50 = .ok (.iload_n 1, 1) := by decide +kernel
theorem dX8_count_51 : decode cX8_count 51 = .ok (.invokevirtual 220, 3) := by decide +kernel
theorem dX8_count_54 : decode cX8_count 54 = .ok (.goto 5, 3) := by decide +kernel
theorem dX8_count_57 : decode cX8_count 57 = .ok (.bipush (-102), 2) := by decide +kernel
theorem dX8_count_59 : decode cX8_count 59 = .ok (.ireturn, 1) := by decide +kernel
set_option maxRecDepth 20000 in
theorem ggX8_callersOf_X8_isCallee : GoodIn wsX8_callersOf wsX8_isCallee := goodIn_r _ [5, 6, 7, 8, 9, 10, 11, 12, 13, 14, 15, 16, 17, 18, 19, 20, 21, 22, 23, 24, 25, 26, 27, 28, 29, 30, 31, 32, 33, 34, 35, 36, 37, 38, 39, 40, 41, 42, 43, 44, 45, 46, 47, 48, 49, 50, 51, 52, 53, 54, 55, 56] rfl (by decide +kernel)
set_option maxRecDepth 20000 in
theorem gX8_callersOf_X8_isCallee : GoodIn wsX8_callersOf (wsV RX8 224 RX8 yX8_isCallee wsX8_isCallee) := goodIn_app (goodIn_of _ (by decide +kernel)) ggX8_callersOf_X8_isCallee
theorem dX8_callersOf_0 : decode cX8_callersOf 0 = .ok (.iconst 0, 1) := by decide +kernel
theorem dX8_callersOf_1 : decode cX8_callersOf 1 = .ok (.istore_n 3, 1) := by decide +kernel
theorem dX8_callersOf_2 : decode cX8_callersOf 2 = .ok (.iconst 0, 1) := by decide +kernel
theorem dX8_callersOf_3 : decode cX8_callersOf 3 = .ok (.istore 4, 2) := by decide +kernel
theorem dX8_callersOf_5 : decode cX8_callersOf 5 = .ok (.iload 4, 2) := by decide +kernel
theorem dX8_callersOf_7 : decode cX8_callersOf 7 = .ok (.iload_n 2, 1) := by decide +kernel
theorem dX8_callersOf_8 : decode cX8_callersOf 8 = .ok (.if_icmp .ge 27, 3) := by decide +kernel
theorem dX8_callersOf_11 : decode cX8_callersOf 11 = .ok (.iload_n 3, 1) := by decide +kernel
theorem dX8_callersOf_12 : decode cX8_callersOf 12 = .ok (.aload_n 0, 1) := by decide +kernel
theorem dX8_callersOf_13 : decode cX8_callersOf 13 = .ok (.iload 4, 2) := by decide +kernel
theorem dX8_callersOf_15 : decode cX8_callersOf 15 = .ok (.iload_n 1, 1) := by decide +kernel
theorem dX8_callersOf_16 : decode cX8_callersOf 16 = .ok (.invokevirtual 224, 3) := by decide +kernel
theorem dX8_callersOf_19 : decode cX8_callersOf 19 = .ok (.ifCond .eq 7, 3) := by decide +kernel
theorem dX8_callersOf_22 : decode cX8_callersOf 22 = .ok (.iconst 1, 1) := by decide +kernel
theorem dX8_callersOf_23 : decode cX8_callersOf 23 = .ok (.goto 4, 3) := by decide +kernel
theorem dX8_callersOf_26 : decode cX8_callersOf 26 = .ok (.iconst 0, 1) := by decide +kernel
theorem dX8_callersOf_27 : decode cX8_callersOf 27 = .ok (.iadd, 1) := by decide +kernel
theorem dX8_callersOf_28 : decode cX8_callersOf 28 = .ok (.istore_n 3, 1) := by decide +kernel
theorem dX8_callersOf_29 : decode cX8_callersOf 29 = .ok (.iinc 4 1, 3) := by decide +kernel
theorem dX8_callersOf_32 : decode cX8_callersOf 32 = .ok (.goto (-27), 3) := by decide +kernel
theorem dX8_callersOf_35 : decode cX8_callersOf 35 = .ok (.iload_n 3, 1) := by decide +kernel
theorem dX8_callersOf_36 : decode cX8_callersOf 36 = .ok (.ireturn, 1) := by decide +kernel
set_option maxRecDepth 20000 in
theorem ggX8_about_X8_isMember : GoodIn wsX8_about wsX8_isMember := goodIn_r _ [7, 1, 8, 9, 6, 10, 127, 128, 129, 130, 131, 132, 133, 134, 135, 136, 137, 138, 139, 140, 141, 142, 143, 144, 145, 146, 147, 148, 149, 150, 151, 152, 153, 154, 155, 156, 157, 158, 159, 160, 161, 162, 163, 164, 165, 166, 167, 168, 169, 170, 171, 172, 173, 174, 175, 176] rfl (by decide +kernel)
set_option maxRecDepth 20000 in
theorem gX8_about_X8_isMember : GoodIn wsX8_about (wsV RX8 156 RX8 yX8_isMember wsX8_isMember) := goodIn_app (goodIn_of _ (by decide +kernel)) ggX8_about_X8_isMember
set_option maxRecDepth 20000 in
theorem ggX8_about_X8_freshen : GoodIn wsX8_about wsX8_freshen := goodIn_r _ [14, 15, 2, 1, 16, 17, 18, 19, 20, 21, 22, 23, 24, 25, 26, 27, 6, 28, 29, 30, 31, 32, 33, 34, 35, 36, 37, 38, 39, 40, 41, 42, 43, 44, 45, 46, 47, 48, 49, 50, 51, 52, 53, 54, 55, 56, 57, 58, 59, 60, 61, 62, 63, 64, 65, 66, 67, 68, 69, 70, 71, 72, 73, 74, 75, 76, 77, 78, 79, 80, 81, 82, 83, 84, 85, 86, 87, 88, 89, 90, 91, 92, 93, 94, 95, 96, 97, 98, 99, 100, 101, 102, 103, 104, 105, 106, 107, 108, 109, 110, 127, 128, 129, 130, 131, 132, 133, 134, 135, 136, 137, 138, 139, 140, 141, 142, 143, 144, 145, 146, 147, 148, 149, 150, 151, 152, 153, 154, 155, 156, 157, 158, 159, 160, 161, 162, 163, 164, 165, 166, 167, 168, 169, 170, 171, 172, 173, 174, 175, 176] rfl (by decide +kernel)
set_option maxRecDepth 20000 in
theorem gX8_about_X8_freshen : GoodIn wsX8_about (wsV RX8 217 RX8 yX8_freshen wsX8_freshen) := goodIn_app (goodIn_of _ (by decide +kernel)) ggX8_about_X8_freshen
set_option maxRecDepth 20000 in
theorem ggX8_about_X8_isRing : GoodIn wsX8_about wsX8_isRing := goodIn_r _ [114, 110, 115, 116, 117, 6, 118, 2, 127, 128, 129, 130, 131, 132, 133, 134, 135, 136, 137, 138, 139, 140, 141, 142, 143, 144, 145, 146, 147, 148, 149, 150, 151, 152, 153, 154, 155, 156, 157, 158, 159, 160, 161, 162, 163, 164, 165, 166, 167, 168, 169, 170, 171, 172, 173, 174, 175, 176] rfl (by decide +kernel)
set_option maxRecDepth 20000 in
theorem gX8_about_X8_isRing : GoodIn wsX8_about (wsV RX8 227 RX8 yX8_isRing wsX8_isRing) := goodIn_app (goodIn_of _ (by decide +kernel)) ggX8_about_X8_isRing
set_option maxRecDepth 20000 in
theorem ggX8_about_X8_isRecursive : GoodIn wsX8_about wsX8_isRecursive := goodIn_r _ [118, 2, 110, 127, 128, 129, 130, 131, 132, 133, 134, 135, 136, 137, 138, 139, 140, 141, 142, 143, 144, 145, 146, 147, 148, 149, 150, 151, 152, 153, 154, 155, 156, 157, 158, 159, 160, 161, 162, 163, 164, 165, 166, 167, 168, 169, 170, 171, 172, 173, 174, 175, 176] rfl (by decide +kernel)
set_option maxRecDepth 20000 in
theorem gX8_about_X8_isRecursive : GoodIn wsX8_about (wsV RX8 214 RX8 yX8_isRecursive wsX8_isRecursive) := goodIn_app (goodIn_of _ (by decide +kernel)) ggX8_about_X8_isRecursive
set_option maxRecDepth 20000 in
theorem ggX8_about_X8_callersOf : GoodIn wsX8_about wsX8_callersOf := goodIn_r _ [122, 123, 124, 125, 6, 126, 109, 127, 128, 129, 130, 131, 132, 133, 134, 135, 136, 137, 138, 139, 140, 141, 142, 143, 144, 145, 146, 147, 148, 149, 150, 151, 152, 153, 154, 155, 156, 157, 158, 159, 160, 161, 162, 163, 164, 165, 166, 167, 168, 169, 170, 171, 172, 173, 174, 175, 176] rfl (by decide +kernel)
set_option maxRecDepth 20000 in
theorem gX8_about_X8_callersOf : GoodIn wsX8_about (wsV RX8 230 RX8 yX8_callersOf wsX8_callersOf) := goodIn_app (goodIn_of _ (by decide +kernel)) ggX8_about_X8_callersOf
theorem dX8_about_0 : decode cX8_about 0 = .ok (.aload_n 0, 1) := by decide +kernel
theorem dX8_about_1 : decode cX8_about 1 = .ok (.iload_n 1, 1) := by decide +kernel
theorem dX8_about_2 : decode cX8_about 2 = .ok (.invokevirtual 156, 3) := by decide +kernel
theorem dX8_about_5 : decode cX8_about 5 = .ok (.ifCond .ne 6, 3) := by decide +kernel
theorem dX8_about_8 : decode cX8_about 8 = .ok (.bipush (-101), 2) := by decide +kernel
theorem dX8_about_10 : decode cX8_about 10 = .ok (.ireturn, 1) := by decide +kernel
theorem dX8_about_11 : decode cX8_about 11 = .ok (.aload_n 0, 1) := by decide +kernel
theorem dX8_about_12 : decode cX8_about 12 = .ok (.invokevirtual 217, 3) := by decide +kernel
theorem dX8_about_15 : decode cX8_about 15 = .ok (.iconst 0, 1) := by decide +kernel
theorem dX8_about_16 : decode cX8_about 16 = .ok (.istore_n 3, 1) := by decide +kernel
theorem dX8_about_17 : decode cX8_about 17 = .ok (.iconst (-1), 1) := by decide +kernel
theorem dX8_about_18 : decode cX8_about 18 = .ok (.istore 4, 2) := by decide +kernel
theorem dX8_about_20 : decode cX8_about 20 = .ok (.aload_n 0, 1) := by decide +kernel
theorem dX8_about_21 : decode cX8_about 21 = .ok (.getfield 131, 3) := by decide +kernel
theorem dX8_about_24 : decode cX8_about 24 = .ok (.iconst 1, 1) := by decide +kernel
theorem dX8_about_25 : decode cX8_about 25 = .ok (.isub, 1) := by decide +kernel
theorem dX8_about_26 : decode cX8_about 26 = .ok (.istore 5, 2) := by decide +kernel
theorem dX8_about_28 : decode cX8_about 28 = .ok (.iload 5, 2) := by decide +kernel
theorem dX8_about_30 : decode cX8_about 30 = .ok (.ifCond .lt 46, 3) := by decide +kernel
theorem dX8_about_33 : decode cX8_about 33 = .ok (.iload_n 3, 1) := by decide +kernel
theorem dX8_about_34 : decode cX8_about 34 = .ok (.aload_n 0, 1) := by decide +kernel
theorem dX8_about_35 : decode cX8_about 35 = .ok (.iload_n 1, 1) := by decide +kernel
theorem dX8_about_36 : decode cX8_about 36 = .ok (.iload 5, 2) := by decide +kernel
theorem dX8_about_38 : decode cX8_about 38 = .ok (.invokevirtual 227, 3) := by decide +kernel
theorem dX8_about_41 : decode cX8_about 41 = .ok (.ifCond .eq 7, 3) := by decide +kernel
theorem dX8_about_44 : decode cX8_about 44 = .ok (.iconst 1, 1) := by decide +kernel
theorem dX8_about_45 : decode cX8_about 45 = .ok (.goto 4, 3) := by decide +kernel
theorem dX8_about_48 : decode cX8_about 48 = .ok (.iconst 0, 1) := by decide +kernel
theorem dX8_about_49 : decode cX8_about 49 = .ok (.iadd, 1) := by decide +kernel
theorem dX8_about_50 : decode cX8_about 50 = .ok (.istore_n 3, 1) := by decide +kernel
theorem dX8_about_51 : decode cX8_about 51 = .ok (.aload_n 0, 1) := by decide +kernel
theorem dX8_about_52 : decode cX8_about 52 = .ok (.iload_n 1, 1) := by decide +kernel
theorem dX8_about_53 : decode cX8_about 53 = .ok (.iload 5, 2) := by decide +kernel
theorem dX8_about_55 : decode cX8_about 55 = .ok (.invokevirtual 227, 3) := by decide +kernel
theorem dX8_about_58 : decode cX8_about 58 = .ok (.ifCond .eq 8, 3) := by decide +kernel
theorem dX8_about_61 : decode cX8_about 61 = .ok (.iload 5, 2) := by decide +kernel
theorem dX8_about_63 : decode cX8_about 63 = .ok (.goto 5, 3) := by decide +kernel
theorem dX8_about_66 : decode cX8_about 66 = .ok (.iload 4, 2) := by decide +kernel
theorem dX8_about_68 : decode cX8_about 68 = .ok (.istore 4, 2) := by decide +kernel
theorem dX8_about_70 : decode cX8_about 70 = .ok (.iinc 5 (-1), 3) := by decide +kernel
theorem dX8_about_73 : decode cX8_about 73 = .ok (.goto (-45), 3) := by decide +kernel
theorem dX8_about_76 : decode cX8_about 76 = .ok (.iload_n 2, 1) := by decide +kernel
theorem dX8_about_77 : decode cX8_about 77 = .ok (.tableswitch 79 0 4 #[35, 50, 64, 74, 76], 35) := by decide +kernel
theorem dX8_about_112 : decode cX8_about 112 = .ok (.aload_n 0, 1) := by decide +kernel
theorem dX8_about_113 : decode cX8_about 113 = .ok (.getfield 50, 3) := by decide +kernel
theorem dX8_about_116 : decode cX8_about 116 = .ok (.iload_n 1, 1) := by decide +kernel
theorem dX8_about_117 : decode cX8_about 117 = .ok (.baload, 1) := by decide +kernel
theorem dX8_about_118 : decode cX8_about 118 = .ok (.ifCond .eq 7, 3) := by decide +kernel
theorem dX8_about_121 : decode cX8_about 121 = .ok (.iconst 1, 1) := by decide +kernel
theorem dX8_about_122 : decode cX8_about 122 = .ok (.goto 4, 3) := by decide +kernel
theorem dX8_about_125 : decode cX8_about 125 = .ok (.iconst 0, 1) := by decide +kernel
theorem dX8_about_126 : decode cX8_about 126 = .ok (.ireturn, 1) := by decide +kernel
theorem dX8_about_127 : decode cX8_about 127 = .ok (.aload_n 0, 1) := by decide +kernel
theorem dX8_about_128 : decode cX8_about 128 = .ok (.iload_n 1, 1) := by decide +kernel
theorem dX8_about_129 : decode cX8_about 129 = .ok (.invokevirtual 214, 3) := by decide +kernel
theorem dX8_about_132 : decode cX8_about 132 = .ok (.ifCond .eq 7, 3) := by decide +kernel
theorem dX8_about_135 : decode cX8_about 135 = .ok (.iconst 1, 1) := by decide +kernel
theorem dX8_about_136 : decode cX8_about 136 = .ok (.goto 4, 3) := by decide +kernel
theorem dX8_about_139 : decode cX8_about 139 = .ok (.iconst 0, 1) := by decide +kernel
theorem dX8_about_140 : decode cX8_about 140 = .ok (.ireturn, 1) := by decide +kernel
theorem dX8_about_141 : decode cX8_about 141 = .ok (.aload_n 0, 1) := by decide +kernel
theorem dX8_about_142 : decode cX8_about 142 = .ok (.iload_n 1, 1) := by decide +kernel
theorem dX8_about_143 : decode cX8_about 143 = .ok (.aload_n 0, 1) := by decide +kernel
theorem dX8_about_144 : decode cX8_about 144 = .ok (.getfield 131, 3) := by decide +kernel
theorem dX8_about_147 : decode cX8_about 147 = .ok (.invokevirtual 230, 3) := by decide +kernel
theorem dX8_about_150 : decode cX8_about 150 = .ok (.ireturn, 1) := by decide +kernel
theorem dX8_about_151 : decode cX8_about 151 = .ok (.iload_n 3, 1) := by decide +kernel
theorem dX8_about_152 : decode cX8_about 152 = .ok (.ireturn, 1) := by decide +kernel
theorem dX8_about_153 : decode cX8_about 153 = .ok (.iload 4, 2) := by decide +kernel
theorem dX8_about_155 : decode cX8_about 155 = .ok (.ireturn, 1) := by decide +kernel
theorem dX8_about_156 : decode cX8_about 156 = .ok (.bipush (-102), 2) := by decide +kernel
theorem dX8_about_158 : decode cX8_about 158 = .ok (.ireturn, 1) := by decide +kernel
set_option maxRecDepth 20000 in
theorem ggX8_made_X8_isType : GoodIn wsX8_made wsX8_isType := goodIn_r _ [7, 8, 9, 10, 6, 11, 111, 112, 113, 114, 115, 116, 117, 118, 119, 120, 121, 122, 123, 124, 125, 126, 127, 128, 129, 130, 131, 132, 133, 134, 135, 136, 137, 138, 139, 140, 141, 142, 143, 144, 145, 146, 147, 148, 149, 150, 151, 152, 153, 154, 155, 156, 157, 158, 159, 160] rfl (by decide +kernel)
set_option maxRecDepth 20000 in
theorem gX8_made_X8_isType : GoodIn wsX8_made (wsV RX8 141 RX8 yX8_isType wsX8_isType) := goodIn_app (goodIn_of _ (by decide +kernel)) ggX8_made_X8_isType
set_option maxRecDepth 20000 in
theorem ggX8_made_X8_freshen : GoodIn wsX8_made wsX8_freshen := goodIn_r _ [15, 16, 17, 18, 19, 1, 2, 20, 21, 22, 23, 24, 25, 26, 27, 28, 6, 29, 30, 31, 32, 33, 34, 35, 36, 37, 38, 39, 8, 40, 41, 42, 43, 44, 45, 46, 47, 48, 49, 50, 51, 52, 53, 54, 55, 56, 57, 58, 59, 60, 61, 62, 63, 64, 65, 66, 67, 68, 69, 70, 71, 72, 73, 74, 75, 76, 77, 78, 79, 80, 81, 82, 83, 84, 85, 86, 87, 88, 89, 90, 91, 92, 93, 94, 95, 96, 97, 98, 99, 100, 101, 102, 103, 104, 105, 106, 107, 108, 109, 110, 111, 112, 113, 114, 115, 116, 117, 118, 119, 120, 121, 122, 123, 124, 125, 126, 127, 128, 129, 130, 131, 132, 133, 134, 135, 136, 137, 138, 139, 140, 141, 142, 143, 144, 145, 146, 147, 148, 149, 150, 151, 152, 153, 154, 155, 156, 157, 158, 159, 160] rfl (by decide +kernel)
set_option maxRecDepth 20000 in
theorem gX8_made_X8_freshen : GoodIn wsX8_made (wsV RX8 217 RX8 yX8_freshen wsX8_freshen) := goodIn_app (goodIn_of _ (by decide +kernel)) ggX8_made_X8_freshen
theorem dX8_made_0 : decode cX8_made 0 = .ok (.aload_n 0, 1) := by decide +kernel
theorem dX8_made_1 : decode cX8_made 1 = .ok (.iload_n 1, 1) := by decide +kernel
theorem dX8_made_2 : decode cX8_made 2 = .ok (.invokevirtual 141, 3) := by decide +kernel
theorem dX8_made_5 : decode cX8_made 5 = .ok (.ifCond .ne 6, 3) := by decide +kernel
theorem dX8_made_8 : decode cX8_made 8 = .ok (.bipush (-101), 2) := by decide +kernel
theorem dX8_made_10 : decode cX8_made 10 = .ok (.ireturn, 1) := by decide +kernel
theorem dX8_made_11 : decode cX8_made 11 = .ok (.aload_n 0, 1) := by decide +kernel
theorem dX8_made_12 : decode cX8_made 12 = .ok (.invokevirtual 217, 3) := by decide +kernel
theorem dX8_made_15 : decode cX8_made 15 = .ok (.iload_n 2, 1) := by decide +kernel
theorem dX8_made_16 : decode cX8_made 16 = .ok (.ifCond .ne 20, 3) := by decide +kernel
theorem dX8_made_19 : decode cX8_made 19 = .ok (.aload_n 0, 1) := by decide +kernel
theorem dX8_made_20 : decode cX8_made 20 = .ok (.getfield 53, 3) := by decide +kernel
theorem dX8_made_23 : decode cX8_made 23 = .ok (.iload_n 1, 1) := by decide +kernel
theorem dX8_made_24 : decode cX8_made 24 = .ok (.baload, 1) := by decide +kernel
theorem dX8_made_25 : decode cX8_made 25 = .ok (.ifCond .eq 7, 3) := by decide +kernel
theorem dX8_made_28 : decode cX8_made 28 = .ok (.iconst 1, 1) := by decide +kernel
theorem dX8_made_29 : decode cX8_made 29 = .ok (.goto 31, 3) := by decide +kernel
theorem dX8_made_32 : decode cX8_made 32 = .ok (.iconst 0, 1) := by decide +kernel
theorem dX8_made_33 : decode cX8_made 33 = .ok (.goto 27, 3) := by decide +kernel
theorem dX8_made_36 : decode cX8_made 36 = .ok (.iload_n 2, 1) := by decide +kernel
theorem dX8_made_37 : decode cX8_made 37 = .ok (.iconst 1, 1) := by decide +kernel
theorem dX8_made_38 : decode cX8_made 38 = .ok (.if_icmp .ne 20, 3) := by decide +kernel
theorem dX8_made_41 : decode cX8_made 41 = .ok (.aload_n 0, 1) := by decide +kernel
theorem dX8_made_42 : decode cX8_made 42 = .ok (.getfield 56, 3) := by decide +kernel
theorem dX8_made_45 : decode cX8_made 45 = .ok (.iload_n 1, 1) := by decide +kernel
theorem dX8_made_46 : decode cX8_made 46 = .ok (.baload, 1) := by decide +kernel
theorem dX8_made_47 : decode cX8_made 47 = .ok (.ifCond .eq 7, 3) := by decide +kernel
theorem dX8_made_50 : decode cX8_made 50 = .ok (.iconst 1, 1) := by decide +kernel
theorem dX8_made_51 : decode cX8_made 51 = .ok (.goto 9, 3) := by decide +kernel
theorem dX8_made_54 : decode cX8_made 54 = .ok (.iconst 0, 1) := by decide +kernel
theorem dX8_made_55 : decode cX8_made 55 = .ok (.goto 5, 3) := by decide +kernel
theorem dX8_made_58 : decode cX8_made 58 = .ok (.bipush (-102), 2) := by decide +kernel
theorem dX8_made_60 : decode cX8_made 60 = .ok (.ireturn, 1) := by decide +kernel
set_option maxRecDepth 20000 in
theorem ggX8_isOp_X8_isMember : GoodIn wsX8_isOp wsX8_isMember := goodIn_r _ [6, 7, 8, 9, 5, 10, 11, 12, 13, 14, 15, 16, 17, 18, 19, 20, 21, 22, 23, 24, 25, 26, 27, 28, 29, 30, 31, 32, 33, 34, 35, 36, 37, 38, 39, 40, 41, 42, 43, 44, 45, 46, 47, 48, 49, 50, 51, 52, 53, 54, 55, 56, 57, 58, 59, 60] rfl (by decide +kernel)
set_option maxRecDepth 20000 in
theorem gX8_isOp_X8_isMember : GoodIn wsX8_isOp (wsV RX8 156 RX8 yX8_isMember wsX8_isMember) := goodIn_app (goodIn_of _ (by decide +kernel)) ggX8_isOp_X8_isMember
set_option maxRecDepth 20000 in
theorem ggX8_isOp_X8_in : GoodIn wsX8_isOp wsX8_in := goodIn_r _ [10] rfl (by decide +kernel)
set_option maxRecDepth 20000 in
theorem gX8_isOp_X8_in : GoodIn wsX8_isOp (va_wsS RX8 127 yX8_in wsX8_in) := goodIn_app (goodIn_of _ (by decide +kernel)) ggX8_isOp_X8_in
theorem dX8_isOp_0 : decode cX8_isOp 0 = .ok (.aload_n 0, 1) := by decide +kernel
theorem dX8_isOp_1 : decode cX8_isOp 1 = .ok (.iload_n 1, 1) := by decide +kernel
theorem dX8_isOp_2 : decode cX8_isOp 2 = .ok (.invokevirtual 156, 3) := by decide +kernel
theorem dX8_isOp_5 : decode cX8_isOp 5 = .ok (.ifCond .eq 23, 3) := by decide +kernel
theorem dX8_isOp_8 : decode cX8_isOp 8 = .ok (.iload_n 2, 1) := by decide +kernel
theorem dX8_isOp_9 : decode cX8_isOp 9 = .ok (.iconst 0, 1) := by decide +kernel
theorem dX8_isOp_10 : decode cX8_isOp 10 = .ok (.aload_n 0, 1) := by decide +kernel
theorem dX8_isOp_11 : decode cX8_isOp 11 = .ok (.getfield 35, 3) := by decide +kernel
theorem dX8_isOp_14 : decode cX8_isOp 14 = .ok (.iload_n 1, 1) := by decide +kernel
theorem dX8_isOp_15 : decode cX8_isOp 15 = .ok (.iaload, 1) := by decide +kernel
theorem dX8_isOp_16 : decode cX8_isOp 16 = .ok (.iconst 1, 1) := by decide +kernel
theorem dX8_isOp_17 : decode cX8_isOp 17 = .ok (.isub, 1) := by decide +kernel
theorem dX8_isOp_18 : decode cX8_isOp 18 = .ok (.invokestatic 127, 3) := by decide +kernel
theorem dX8_isOp_21 : decode cX8_isOp 21 = .ok (.ifCond .eq 7, 3) := by decide +kernel
theorem dX8_isOp_24 : decode cX8_isOp 24 = .ok (.iconst 1, 1) := by decide +kernel
theorem dX8_isOp_25 : decode cX8_isOp 25 = .ok (.goto 4, 3) := by decide +kernel
theorem dX8_isOp_28 : decode cX8_isOp 28 = .ok (.iconst 0, 1) := by decide +kernel
theorem dX8_isOp_29 : decode cX8_isOp 29 = .ok (.ireturn, 1) := by decide +kernel
set_option maxRecDepth 20000 in
theorem ggX8_callee_X8_isOp : GoodIn wsX8_callee wsX8_isOp := goodIn_r _ [8, 9, 10, 11, 12, 7, 13, 1, 14, 15, 16, 115, 116, 117, 118, 119, 120, 121, 122, 123, 124, 125, 126, 127, 128, 129, 130, 131, 132, 133, 134, 135, 136, 137, 138, 139, 140, 141, 142, 143, 144, 145, 146, 147, 148, 149, 150, 151, 152, 153, 154, 155, 156, 157, 158, 159, 160, 161, 162, 163, 164] rfl (by decide +kernel)
set_option maxRecDepth 20000 in
theorem gX8_callee_X8_isOp : GoodIn wsX8_callee (wsV RX8 233 RX8 yX8_isOp wsX8_isOp) := goodIn_app (goodIn_of _ (by decide +kernel)) ggX8_callee_X8_isOp
set_option maxRecDepth 20000 in
theorem ggX8_callee_X8_freshen : GoodIn wsX8_callee wsX8_freshen := goodIn_r _ [20, 21, 22, 1, 23, 24, 25, 26, 2, 27, 28, 9, 3, 29, 30, 31, 7, 32, 33, 34, 35, 36, 37, 38, 39, 40, 41, 42, 43, 44, 45, 46, 47, 48, 49, 50, 51, 52, 53, 54, 55, 56, 57, 58, 59, 60, 61, 62, 63, 64, 65, 66, 67, 68, 69, 70, 71, 72, 73, 74, 75, 76, 77, 78, 79, 80, 81, 82, 83, 84, 85, 86, 87, 88, 89, 90, 91, 92, 93, 94, 95, 96, 97, 98, 99, 100, 101, 102, 103, 104, 105, 106, 107, 108, 109, 110, 111, 112, 113, 114, 115, 116, 117, 118, 119, 120, 121, 122, 123, 124, 125, 126, 127, 128, 129, 130, 131, 132, 133, 134, 135, 136, 137, 138, 139, 140, 141, 142, 143, 144, 145, 146, 147, 148, 149, 150, 151, 152, 153, 154, 155, 156, 157, 158, 159, 160, 161, 162, 163, 164] rfl (by decide +kernel)
set_option maxRecDepth 20000 in
theorem gX8_callee_X8_freshen : GoodIn wsX8_callee (wsV RX8 217 RX8 yX8_freshen wsX8_freshen) := goodIn_app (goodIn_of _ (by decide +kernel)) ggX8_callee_X8_freshen
theorem dX8_callee_0 : decode cX8_callee 0 = .ok (.aload_n 0, 1) := by decide +kernel
theorem dX8_callee_1 : decode cX8_callee 1 = .ok (.iload_n 1, 1) := by decide +kernel
theorem dX8_callee_2 : decode cX8_callee 2 = .ok (.iload_n 2, 1) := by decide +kernel
theorem dX8_callee_3 : decode cX8_callee 3 = .ok (.invokevirtual 233, 3) := by decide +kernel
theorem dX8_callee_6 : decode cX8_callee 6 = .ok (.ifCond .ne 6, 3) := by decide +kernel
theorem dX8_callee_9 : decode cX8_callee 9 = .ok (.bipush (-101), 2) := by decide +kernel
theorem dX8_callee_11 : decode cX8_callee 11 = .ok (.ireturn, 1) := by decide +kernel
theorem dX8_callee_12 : decode cX8_callee 12 = .ok (.aload_n 0, 1) := by decide +kernel
theorem dX8_callee_13 : decode cX8_callee 13 = .ok (.invokevirtual 217, 3) := by decide +kernel
theorem dX8_callee_16 : decode cX8_callee 16 = .ok (.iconst 0, 1) := by decide +kernel
theorem dX8_callee_17 : decode cX8_callee 17 = .ok (.istore 4, 2) := by decide +kernel
theorem dX8_callee_19 : decode cX8_callee 19 = .ok (.iconst 0, 1) := by decide +kernel
theorem dX8_callee_20 : decode cX8_callee 20 = .ok (.istore 5, 2) := by decide +kernel
theorem dX8_callee_22 : decode cX8_callee 22 = .ok (.iload 5, 2) := by decide +kernel
theorem dX8_callee_24 : decode cX8_callee 24 = .ok (.aload_n 0, 1) := by decide +kernel
theorem dX8_callee_25 : decode cX8_callee 25 = .ok (.getfield 131, 3) := by decide +kernel
theorem dX8_callee_28 : decode cX8_callee 28 = .ok (.if_icmp .ge 46, 3) := by decide +kernel
theorem dX8_callee_31 : decode cX8_callee 31 = .ok (.aload_n 0, 1) := by decide +kernel
theorem dX8_callee_32 : decode cX8_callee 32 = .ok (.getfield 62, 3) := by decide +kernel
theorem dX8_callee_35 : decode cX8_callee 35 = .ok (.bipush 48, 2) := by decide +kernel
theorem dX8_callee_37 : decode cX8_callee 37 = .ok (.aload_n 0, 1) := by decide +kernel
theorem dX8_callee_38 : decode cX8_callee 38 = .ok (.getfield 38, 3) := by decide +kernel
theorem dX8_callee_41 : decode cX8_callee 41 = .ok (.bipush 24, 2) := by decide +kernel
theorem dX8_callee_43 : decode cX8_callee 43 = .ok (.iload_n 1, 1) := by decide +kernel
theorem dX8_callee_44 : decode cX8_callee 44 = .ok (.imul, 1) := by decide +kernel
theorem dX8_callee_45 : decode cX8_callee 45 = .ok (.iload_n 2, 1) := by decide +kernel
theorem dX8_callee_46 : decode cX8_callee 46 = .ok (.iadd, 1) := by decide +kernel
theorem dX8_callee_47 : decode cX8_callee 47 = .ok (.iaload, 1) := by decide +kernel
theorem dX8_callee_48 : decode cX8_callee 48 = .ok (.imul, 1) := by decide +kernel
theorem dX8_callee_49 : decode cX8_callee 49 = .ok (.iload 5, 2) := by decide +kernel
theorem dX8_callee_51 : decode cX8_callee 51 = .ok (.iadd, 1) := by decide +kernel
theorem dX8_callee_52 : decode cX8_callee 52 = .ok (.baload, 1) := by decide +kernel
theorem dX8_callee_53 : decode cX8_callee 53 = .ok (.ifCond .eq 15, 3) := by decide +kernel
theorem dX8_callee_56 : decode cX8_callee 56 = .ok (.iload 4, 2) := by decide +kernel
theorem dX8_callee_58 : decode cX8_callee 58 = .ok (.iload_n 3, 1) := by decide +kernel
theorem dX8_callee_59 : decode cX8_callee 59 = .ok (.if_icmp .ne 6, 3) := by decide +kernel
theorem dX8_callee_62 : decode cX8_callee 62 = .ok (.iload 5, 2) := by decide +kernel
theorem dX8_callee_64 : decode cX8_callee 64 = .ok (.ireturn, 1) := by decide +kernel
theorem dX8_callee_65 : decode cX8_callee 65 = .ok (.iinc 4 1, 3) := by decide +kernel
theorem dX8_callee_68 : decode cX8_callee 68 = .ok (.iinc 5 1, 3) := by decide +kernel
theorem dX8_callee_71 : decode cX8_callee 71 = .ok (.goto (-49), 3) := by decide +kernel
theorem dX8_callee_74 : decode cX8_callee 74 = .ok (.iconst (-1), 1) := by decide +kernel
theorem dX8_callee_75 : decode cX8_callee 75 = .ok (.ireturn, 1) := by decide +kernel
set_option maxRecDepth 20000 in
theorem ggX8_faults_X8_isOp : GoodIn wsX8_faults wsX8_isOp := goodIn_r _ [7, 8, 9, 10, 11, 6, 12, 13, 14, 15, 16, 115, 116, 117, 118, 119, 120, 121, 122, 123, 124, 125, 126, 127, 128, 129, 130, 131, 132, 133, 134, 135, 136, 137, 138, 139, 140, 141, 142, 143, 144, 145, 146, 147, 148, 149, 150, 151, 152, 153, 154, 155, 156, 157, 158, 159, 160, 161, 162, 163, 164] rfl (by decide +kernel)
set_option maxRecDepth 20000 in
theorem gX8_faults_X8_isOp : GoodIn wsX8_faults (wsV RX8 233 RX8 yX8_isOp wsX8_isOp) := goodIn_app (goodIn_of _ (by decide +kernel)) ggX8_faults_X8_isOp
set_option maxRecDepth 20000 in
theorem ggX8_faults_X8_freshen : GoodIn wsX8_faults wsX8_freshen := goodIn_r _ [20, 21, 22, 13, 23, 24, 25, 26, 27, 1, 28, 8, 2, 29, 30, 31, 6, 32, 33, 34, 35, 36, 37, 38, 39, 40, 41, 42, 43, 44, 45, 46, 47, 48, 49, 50, 51, 52, 53, 54, 55, 56, 57, 58, 59, 60, 61, 62, 63, 64, 65, 66, 67, 68, 69, 70, 71, 72, 73, 74, 75, 76, 77, 78, 79, 80, 81, 82, 83, 84, 85, 86, 87, 88, 89, 90, 91, 92, 93, 94, 95, 96, 97, 98, 99, 100, 101, 102, 103, 104, 105, 106, 107, 108, 109, 110, 111, 112, 113, 114, 115, 116, 117, 118, 119, 120, 121, 122, 123, 124, 125, 126, 127, 128, 129, 130, 131, 132, 133, 134, 135, 136, 137, 138, 139, 140, 141, 142, 143, 144, 145, 146, 147, 148, 149, 150, 151, 152, 153, 154, 155, 156, 157, 158, 159, 160, 161, 162, 163, 164] rfl (by decide +kernel)
set_option maxRecDepth 20000 in
theorem gX8_faults_X8_freshen : GoodIn wsX8_faults (wsV RX8 217 RX8 yX8_freshen wsX8_freshen) := goodIn_app (goodIn_of _ (by decide +kernel)) ggX8_faults_X8_freshen
set_option maxRecDepth 20000 in
theorem ggX8_faults_X8_in : GoodIn wsX8_faults wsX8_in := goodIn_r _ [16] rfl (by decide +kernel)
set_option maxRecDepth 20000 in
theorem gX8_faults_X8_in : GoodIn wsX8_faults (va_wsS RX8 127 yX8_in wsX8_in) := goodIn_app (goodIn_of _ (by decide +kernel)) ggX8_faults_X8_in
theorem dX8_faults_0 : decode cX8_faults 0 = .ok (.aload_n 0, 1) := by decide +kernel
theorem dX8_faults_1 : decode cX8_faults 1 = .ok (.iload_n 1, 1) := by decide +kernel
theorem dX8_faults_2 : decode cX8_faults 2 = .ok (.iload_n 2, 1) := by decide +kernel
theorem dX8_faults_3 : decode cX8_faults 3 = .ok (.invokevirtual 233, 3) := by decide +kernel
theorem dX8_faults_6 : decode cX8_faults 6 = .ok (.ifCond .ne 6, 3) := by decide +kernel
theorem dX8_faults_9 : decode cX8_faults 9 = .ok (.bipush (-101), 2) := by decide +kernel
theorem dX8_faults_11 : decode cX8_faults 11 = .ok (.ireturn, 1) := by decide +kernel
theorem dX8_faults_12 : decode cX8_faults 12 = .ok (.aload_n 0, 1) := by decide +kernel
theorem dX8_faults_13 : decode cX8_faults 13 = .ok (.invokevirtual 217, 3) := by decide +kernel
theorem dX8_faults_16 : decode cX8_faults 16 = .ok (.iload_n 3, 1) := by decide +kernel
theorem dX8_faults_17 : decode cX8_faults 17 = .ok (.bipush (-5), 2) := by decide +kernel
theorem dX8_faults_19 : decode cX8_faults 19 = .ok (.bipush (-2), 2) := by decide +kernel
theorem dX8_faults_21 : decode cX8_faults 21 = .ok (.invokestatic 127, 3) := by decide +kernel
theorem dX8_faults_24 : decode cX8_faults 24 = .ok (.ifCond .eq 28, 3) := by decide +kernel
theorem dX8_faults_27 : decode cX8_faults 27 = .ok (.aload_n 0, 1) := by decide +kernel
theorem dX8_faults_28 : decode cX8_faults 28 = .ok (.getfield 65, 3) := by decide +kernel
theorem dX8_faults_31 : decode cX8_faults 31 = .ok (.iconst 4, 1) := by decide +kernel
theorem dX8_faults_32 : decode cX8_faults 32 = .ok (.aload_n 0, 1) := by decide +kernel
theorem dX8_faults_33 : decode cX8_faults 33 = .ok (.getfield 38, 3) := by decide +kernel
theorem dX8_faults_36 : decode cX8_faults 36 = .ok (.bipush 24, 2) := by decide +kernel
theorem dX8_faults_38 : decode cX8_faults 38 = .ok (.iload_n 1, 1) := by decide +kernel
theorem dX8_faults_39 : decode cX8_faults 39 = .ok (.imul, 1) := by decide +kernel
theorem dX8_faults_40 : decode cX8_faults 40 = .ok (.iload_n 2, 1) := by decide +kernel
theorem dX8_faults_41 : decode cX8_faults 41 = .ok (.iadd, 1) := by decide +kernel
theorem dX8_faults_42 : decode cX8_faults 42 = .ok (.iaload, 1) := by decide +kernel
theorem dX8_faults_43 : decode cX8_faults 43 = .ok (.imul, 1) := by decide +kernel
theorem dX8_faults_44 : decode cX8_faults 44 = .ok (.iconst 2, 1) := by decide +kernel
theorem dX8_faults_45 : decode cX8_faults 45 = .ok (.isub, 1) := by decide +kernel
theorem dX8_faults_46 : decode cX8_faults 46 = .ok (.iload_n 3, 1) := by decide +kernel
theorem dX8_faults_47 : decode cX8_faults 47 = .ok (.isub, 1) := by decide +kernel
theorem dX8_faults_48 : decode cX8_faults 48 = .ok (.iaload, 1) := by decide +kernel
theorem dX8_faults_49 : decode cX8_faults 49 = .ok (.goto 5, 3) := by decide +kernel
theorem dX8_faults_52 : decode cX8_faults 52 = .ok (.bipush (-102), 2) := by decide +kernel
theorem dX8_faults_54 : decode cX8_faults 54 = .ok (.ireturn, 1) := by decide +kernel
set_option maxRecDepth 20000 in
theorem ggX8_caller_X8_isMember : GoodIn wsX8_caller wsX8_isMember := goodIn_r _ [6, 1, 7, 8, 5, 9, 119, 120, 121, 122, 123, 124, 125, 126, 127, 128, 129, 130, 131, 132, 133, 134, 135, 136, 137, 138, 139, 140, 141, 142, 143, 144, 145, 146, 147, 148, 149, 150, 151, 152, 153, 154, 155, 156, 157, 158, 159, 160, 161, 162, 163, 164, 165, 166, 167, 168] rfl (by decide +kernel)
set_option maxRecDepth 20000 in
theorem gX8_caller_X8_isMember : GoodIn wsX8_caller (wsV RX8 156 RX8 yX8_isMember wsX8_isMember) := goodIn_app (goodIn_of _ (by decide +kernel)) ggX8_caller_X8_isMember
set_option maxRecDepth 20000 in
theorem ggX8_caller_X8_freshen : GoodIn wsX8_caller wsX8_freshen := goodIn_r _ [13, 14, 15, 1, 16, 17, 18, 19, 20, 21, 22, 23, 24, 25, 26, 27, 5, 28, 29, 30, 31, 32, 33, 34, 35, 36, 37, 38, 39, 40, 41, 42, 43, 44, 45, 46, 47, 48, 49, 50, 51, 52, 53, 54, 55, 56, 57, 58, 59, 60, 61, 62, 63, 64, 65, 66, 67, 68, 69, 70, 71, 72, 73, 74, 75, 76, 77, 78, 79, 80, 81, 82, 83, 84, 85, 86, 87, 88, 89, 90, 91, 92, 93, 94, 95, 96, 97, 98, 99, 100, 101, 102, 103, 104, 105, 106, 107, 108, 109, 110, 119, 120, 121, 122, 123, 124, 125, 126, 127, 128, 129, 130, 131, 132, 133, 134, 135, 136, 137, 138, 139, 140, 141, 142, 143, 144, 145, 146, 147, 148, 149, 150, 151, 152, 153, 154, 155, 156, 157, 158, 159, 160, 161, 162, 163, 164, 165, 166, 167, 168] rfl (by decide +kernel)
set_option maxRecDepth 20000 in
theorem gX8_caller_X8_freshen : GoodIn wsX8_caller (wsV RX8 217 RX8 yX8_freshen wsX8_freshen) := goodIn_app (goodIn_of _ (by decide +kernel)) ggX8_caller_X8_freshen
set_option maxRecDepth 20000 in
theorem ggX8_caller_X8_isCallee : GoodIn wsX8_caller wsX8_isCallee := goodIn_r _ [114, 109, 119, 120, 121, 122, 123, 124, 125, 126, 127, 128, 129, 130, 131, 132, 133, 134, 135, 136, 137, 138, 139, 140, 141, 142, 143, 144, 145, 146, 147, 148, 149, 150, 151, 152, 153, 154, 155, 156, 157, 158, 159, 160, 161, 162, 163, 164, 165, 166, 167, 168] rfl (by decide +kernel)
set_option maxRecDepth 20000 in
theorem gX8_caller_X8_isCallee : GoodIn wsX8_caller (wsV RX8 224 RX8 yX8_isCallee wsX8_isCallee) := goodIn_app (goodIn_of _ (by decide +kernel)) ggX8_caller_X8_isCallee
set_option maxRecDepth 20000 in
theorem ggX8_caller_X8_callersOf : GoodIn wsX8_caller wsX8_callersOf := goodIn_r _ [118, 111, 112, 113, 5, 114, 109, 119, 120, 121, 122, 123, 124, 125, 126, 127, 128, 129, 130, 131, 132, 133, 134, 135, 136, 137, 138, 139, 140, 141, 142, 143, 144, 145, 146, 147, 148, 149, 150, 151, 152, 153, 154, 155, 156, 157, 158, 159, 160, 161, 162, 163, 164, 165, 166, 167, 168] rfl (by decide +kernel)
set_option maxRecDepth 20000 in
theorem gX8_caller_X8_callersOf : GoodIn wsX8_caller (wsV RX8 230 RX8 yX8_callersOf wsX8_callersOf) := goodIn_app (goodIn_of _ (by decide +kernel)) ggX8_caller_X8_callersOf
theorem dX8_caller_0 : decode cX8_caller 0 = .ok (.aload_n 0, 1) := by decide +kernel
theorem dX8_caller_1 : decode cX8_caller 1 = .ok (.iload_n 1, 1) := by decide +kernel
theorem dX8_caller_2 : decode cX8_caller 2 = .ok (.invokevirtual 156, 3) := by decide +kernel
theorem dX8_caller_5 : decode cX8_caller 5 = .ok (.ifCond .ne 6, 3) := by decide +kernel
theorem dX8_caller_8 : decode cX8_caller 8 = .ok (.bipush (-101), 2) := by decide +kernel
theorem dX8_caller_10 : decode cX8_caller 10 = .ok (.ireturn, 1) := by decide +kernel
theorem dX8_caller_11 : decode cX8_caller 11 = .ok (.aload_n 0, 1) := by decide +kernel
theorem dX8_caller_12 : decode cX8_caller 12 = .ok (.invokevirtual 217, 3) := by decide +kernel
theorem dX8_caller_15 : decode cX8_caller 15 = .ok (.iconst 0, 1) := by decide +kernel
theorem dX8_caller_16 : decode cX8_caller 16 = .ok (.istore_n 3, 1) := by decide +kernel
theorem dX8_caller_17 : decode cX8_caller 17 = .ok (.iload_n 3, 1) := by decide +kernel
theorem dX8_caller_18 : decode cX8_caller 18 = .ok (.aload_n 0, 1) := by decide +kernel
theorem dX8_caller_19 : decode cX8_caller 19 = .ok (.getfield 131, 3) := by decide +kernel
theorem dX8_caller_22 : decode cX8_caller 22 = .ok (.if_icmp .ge 30, 3) := by decide +kernel
theorem dX8_caller_25 : decode cX8_caller 25 = .ok (.aload_n 0, 1) := by decide +kernel
theorem dX8_caller_26 : decode cX8_caller 26 = .ok (.iload_n 3, 1) := by decide +kernel
theorem dX8_caller_27 : decode cX8_caller 27 = .ok (.iload_n 1, 1) := by decide +kernel
theorem dX8_caller_28 : decode cX8_caller 28 = .ok (.invokevirtual 224, 3) := by decide +kernel
theorem dX8_caller_31 : decode cX8_caller 31 = .ok (.ifCond .eq 15, 3) := by decide +kernel
theorem dX8_caller_34 : decode cX8_caller 34 = .ok (.aload_n 0, 1) := by decide +kernel
theorem dX8_caller_35 : decode cX8_caller 35 = .ok (.iload_n 1, 1) := by decide +kernel
theorem dX8_caller_36 : decode cX8_caller 36 = .ok (.iload_n 3, 1) := by decide +kernel
theorem dX8_caller_37 : decode cX8_caller 37 = .ok (.invokevirtual 230, 3) := by decide +kernel
theorem dX8_caller_40 : decode cX8_caller 40 = .ok (.iload_n 2, 1) := by decide +kernel
theorem dX8_caller_41 : decode cX8_caller 41 = .ok (.if_icmp .ne 5, 3) := by decide +kernel
theorem dX8_caller_44 : decode cX8_caller 44 = .ok (.iload_n 3, 1) := by decide +kernel
theorem dX8_caller_45 : decode cX8_caller 45 = .ok (.ireturn, 1) := by decide +kernel
theorem dX8_caller_46 : decode cX8_caller 46 = .ok (.iinc 3 1, 3) := by decide +kernel
theorem dX8_caller_49 : decode cX8_caller 49 = .ok (.goto (-32), 3) := by decide +kernel
theorem dX8_caller_52 : decode cX8_caller 52 = .ok (.iconst (-1), 1) := by decide +kernel
theorem dX8_caller_53 : decode cX8_caller 53 = .ok (.ireturn, 1) := by decide +kernel
set_option maxRecDepth 20000 in
theorem ggX8_findFar_X8_isCallee : GoodIn wsX8_findFar wsX8_isCallee := goodIn_r _ [7, 8, 9, 10, 11, 12, 13, 14, 15, 16, 17, 18, 19, 20, 21, 22, 23, 24, 25, 26, 27, 28, 29, 30, 31, 32, 33, 34, 35, 36, 37, 38, 39, 40, 41, 42, 43, 44, 45, 46, 47, 48, 49, 50, 51, 52, 53, 54, 55, 56, 57, 58] rfl (by decide +kernel)
set_option maxRecDepth 20000 in
theorem gX8_findFar_X8_isCallee : GoodIn wsX8_findFar (wsV RX8 224 RX8 yX8_isCallee wsX8_isCallee) := goodIn_app (goodIn_of _ (by decide +kernel)) ggX8_findFar_X8_isCallee
theorem dX8_findFar_0 : decode cX8_findFar 0 = .ok (.iconst 0, 1) := by decide +kernel
theorem dX8_findFar_1 : decode cX8_findFar 1 = .ok (.istore_n 2, 1) := by decide +kernel
theorem dX8_findFar_2 : decode cX8_findFar 2 = .ok (.iload_n 2, 1) := by decide +kernel
theorem dX8_findFar_3 : decode cX8_findFar 3 = .ok (.aload_n 0, 1) := by decide +kernel
theorem dX8_findFar_4 : decode cX8_findFar 4 = .ok (.getfield 131, 3) := by decide +kernel
theorem dX8_findFar_7 : decode cX8_findFar 7 = .ok (.if_icmp .ge 26, 3) := by decide +kernel
theorem dX8_findFar_10 : decode cX8_findFar 10 = .ok (.aload_n 0, 1) := by decide +kernel
theorem dX8_findFar_11 : decode cX8_findFar 11 = .ok (.getfield 89, 3) := by decide +kernel
theorem dX8_findFar_14 : decode cX8_findFar 14 = .ok (.iload_n 2, 1) := by decide +kernel
theorem dX8_findFar_15 : decode cX8_findFar 15 = .ok (.iload_n 2, 1) := by decide +kernel
theorem dX8_findFar_16 : decode cX8_findFar 16 = .ok (.iload_n 1, 1) := by decide +kernel
theorem dX8_findFar_17 : decode cX8_findFar 17 = .ok (.if_icmp .ne 7, 3) := by decide +kernel
theorem dX8_findFar_20 : decode cX8_findFar 20 = .ok (.iconst 0, 1) := by decide +kernel
theorem dX8_findFar_21 : decode cX8_findFar 21 = .ok (.goto 5, 3) := by decide +kernel
theorem dX8_findFar_24 : decode cX8_findFar 24 = .ok (.bipush 99, 2) := by decide +kernel
theorem dX8_findFar_26 : decode cX8_findFar 26 = .ok (.iastore, 1) := by decide +kernel
theorem dX8_findFar_27 : decode cX8_findFar 27 = .ok (.iinc 2 1, 3) := by decide +kernel
theorem dX8_findFar_30 : decode cX8_findFar 30 = .ok (.goto (-28), 3) := by decide +kernel
theorem dX8_findFar_33 : decode cX8_findFar 33 = .ok (.iconst 1, 1) := by decide +kernel
theorem dX8_findFar_34 : decode cX8_findFar 34 = .ok (.istore_n 2, 1) := by decide +kernel
theorem dX8_findFar_35 : decode cX8_findFar 35 = .ok (.iload_n 2, 1) := by decide +kernel
theorem dX8_findFar_36 : decode cX8_findFar 36 = .ok (.ifCond .eq 87, 3) := by decide +kernel
theorem dX8_findFar_39 : decode cX8_findFar 39 = .ok (.iconst 0, 1) := by decide +kernel
theorem dX8_findFar_40 : decode cX8_findFar 40 = .ok (.istore_n 2, 1) := by decide +kernel
theorem dX8_findFar_41 : decode cX8_findFar 41 = .ok (.iconst 0, 1) := by decide +kernel
theorem dX8_findFar_42 : decode cX8_findFar 42 = .ok (.istore_n 3, 1) := by decide +kernel
theorem dX8_findFar_43 : decode cX8_findFar 43 = .ok (.iload_n 3, 1) := by decide +kernel
theorem dX8_findFar_44 : decode cX8_findFar 44 = .ok (.aload_n 0, 1) := by decide +kernel
theorem dX8_findFar_45 : decode cX8_findFar 45 = .ok (.getfield 131, 3) := by decide +kernel
theorem dX8_findFar_48 : decode cX8_findFar 48 = .ok (.if_icmp .ge 72, 3) := by decide +kernel
theorem dX8_findFar_51 : decode cX8_findFar 51 = .ok (.iconst 0, 1) := by decide +kernel
theorem dX8_findFar_52 : decode cX8_findFar 52 = .ok (.istore 4, 2) := by decide +kernel
theorem dX8_findFar_54 : decode cX8_findFar 54 = .ok (.iload 4, 2) := by decide +kernel
theorem dX8_findFar_56 : decode cX8_findFar 56 = .ok (.aload_n 0, 1) := by decide +kernel
theorem dX8_findFar_57 : decode cX8_findFar 57 = .ok (.getfield 131, 3) := by decide +kernel
theorem dX8_findFar_60 : decode cX8_findFar 60 = .ok (.if_icmp .ge 54, 3) := by decide +kernel
theorem dX8_findFar_63 : decode cX8_findFar 63 = .ok (.aload_n 0, 1) := by decide +kernel
theorem dX8_findFar_64 : decode cX8_findFar 64 = .ok (.getfield 89, 3) := by decide +kernel
theorem dX8_findFar_67 : decode cX8_findFar 67 = .ok (.iload 4, 2) := by decide +kernel
theorem dX8_findFar_69 : decode cX8_findFar 69 = .ok (.iaload, 1) := by decide +kernel
theorem dX8_findFar_70 : decode cX8_findFar 70 = .ok (.iconst 1, 1) := by decide +kernel
theorem dX8_findFar_71 : decode cX8_findFar 71 = .ok (.iadd, 1) := by decide +kernel
theorem dX8_findFar_72 : decode cX8_findFar 72 = .ok (.aload_n 0, 1) := by decide +kernel
theorem dX8_findFar_73 : decode cX8_findFar 73 = .ok (.getfield 89, 3) := by decide +kernel
theorem dX8_findFar_76 : decode cX8_findFar 76 = .ok (.iload_n 3, 1) := by decide +kernel
theorem dX8_findFar_77 : decode cX8_findFar 77 = .ok (.iaload, 1) := by decide +kernel
theorem dX8_findFar_78 : decode cX8_findFar 78 = .ok (.if_icmp .ge 30, 3) := by decide +kernel
theorem dX8_findFar_81 : decode cX8_findFar 81 = .ok (.aload_n 0, 1) := by decide +kernel
theorem dX8_findFar_82 : decode cX8_findFar 82 = .ok (.iload_n 3, 1) := by decide +kernel
theorem dX8_findFar_83 : decode cX8_findFar 83 = .ok (.iload 4, 2) := by decide +kernel
theorem dX8_findFar_85 : decode cX8_findFar 85 = .ok (.invokevirtual 224, 3) := by decide +kernel
theorem dX8_findFar_88 : decode cX8_findFar 88 = .ok (.ifCond .eq 20, 3) := by decide +kernel
theorem dX8_findFar_91 : decode cX8_findFar 91 = .ok (.aload_n 0, 1) := by decide +kernel
theorem dX8_findFar_92 : decode cX8_findFar 92 = .ok (.getfield 89, 3) := by decide +kernel
theorem dX8_findFar_95 : decode cX8_findFar 95 = .ok (.iload_n 3, 1) := by decide +kernel
theorem dX8_findFar_96 : decode cX8_findFar 96 = .ok (.aload_n 0, 1) := by decide +kernel
theorem dX8_findFar_97 : decode cX8_findFar 97 = .ok (.getfield 89, 3) := by decide +kernel
theorem dX8_findFar_100 : decode cX8_findFar 100 = .ok (.iload 4, 2) := by decide +kernel
theorem dX8_findFar_102 : decode cX8_findFar 102 = .ok (.iaload, 1) := by decide +kernel
theorem dX8_findFar_103 : decode cX8_findFar 103 = .ok (.iconst 1, 1) := by decide +kernel
theorem dX8_findFar_104 : decode cX8_findFar 104 = .ok (.iadd, 1) := by decide +kernel
theorem dX8_findFar_105 : decode cX8_findFar 105 = .ok (.iastore, 1) := by decide +kernel
theorem dX8_findFar_106 : decode cX8_findFar 106 = .ok (.iconst 1, 1) := by decide +kernel
theorem dX8_findFar_107 : decode cX8_findFar 107 = .ok (.istore_n 2, 1) := by decide +kernel
theorem dX8_findFar_108 : decode cX8_findFar 108 = .ok (.iinc 4 1, 3) := by decide +kernel
theorem dX8_findFar_111 : decode cX8_findFar 111 = .ok (.goto (-57), 3) := by decide +kernel
theorem dX8_findFar_114 : decode cX8_findFar 114 = .ok (.iinc 3 1, 3) := by decide +kernel
theorem dX8_findFar_117 : decode cX8_findFar 117 = .ok (.goto (-74), 3) := by decide +kernel
theorem dX8_findFar_120 : decode cX8_findFar 120 = .ok (.goto (-85), 3) := by decide +kernel
theorem dX8_findFar_123 : decode cX8_findFar 123 = .ok (.return_, 1) := by decide +kernel
set_option maxRecDepth 20000 in
theorem ggX8_way_X8_isMember : GoodIn wsX8_way wsX8_isMember := goodIn_r _ [9, 2, 10, 11, 8, 12, 120, 121, 122, 123, 124, 125, 126, 127, 128, 129, 130, 131, 132, 133, 134, 135, 136, 137, 138, 139, 140, 141, 142, 143, 144, 145, 146, 147, 148, 149, 150, 151, 152, 153, 154, 155, 156, 157, 158, 159, 160, 161, 162, 163, 164, 165, 166, 167, 168, 169] rfl (by decide +kernel)
set_option maxRecDepth 20000 in
theorem gX8_way_X8_isMember : GoodIn wsX8_way (wsV RX8 156 RX8 yX8_isMember wsX8_isMember) := goodIn_app (goodIn_of _ (by decide +kernel)) ggX8_way_X8_isMember
set_option maxRecDepth 20000 in
theorem ggX8_way_X8_freshen : GoodIn wsX8_way wsX8_freshen := goodIn_r _ [16, 17, 1, 2, 3, 18, 19, 20, 21, 22, 23, 24, 25, 26, 27, 28, 8, 29, 30, 31, 32, 33, 34, 35, 36, 37, 38, 39, 40, 41, 42, 43, 44, 45, 46, 47, 48, 49, 50, 51, 52, 53, 54, 55, 56, 57, 58, 59, 60, 61, 62, 63, 64, 65, 66, 67, 68, 69, 70, 71, 72, 73, 74, 75, 76, 77, 78, 79, 80, 81, 82, 83, 84, 85, 86, 87, 88, 89, 90, 91, 92, 93, 94, 95, 96, 97, 98, 99, 100, 101, 102, 103, 104, 105, 106, 107, 108, 109, 110, 111, 120, 121, 122, 123, 124, 125, 126, 127, 128, 129, 130, 131, 132, 133, 134, 135, 136, 137, 138, 139, 140, 141, 142, 143, 144, 145, 146, 147, 148, 149, 150, 151, 152, 153, 154, 155, 156, 157, 158, 159, 160, 161, 162, 163, 164, 165, 166, 167, 168, 169] rfl (by decide +kernel)
set_option maxRecDepth 20000 in
theorem gX8_way_X8_freshen : GoodIn wsX8_way (wsV RX8 217 RX8 yX8_freshen wsX8_freshen) := goodIn_app (goodIn_of _ (by decide +kernel)) ggX8_way_X8_freshen
set_option maxRecDepth 20000 in
theorem ggX8_way_X8_findFar : GoodIn wsX8_way wsX8_findFar := goodIn_r _ [115, 2, 4, 116, 117, 118, 8, 119, 110, 120, 121, 122, 123, 124, 125, 126, 127, 128, 129, 130, 131, 132, 133, 134, 135, 136, 137, 138, 139, 140, 141, 142, 143, 144, 145, 146, 147, 148, 149, 150, 151, 152, 153, 154, 155, 156, 157, 158, 159, 160, 161, 162, 163, 164, 165, 166, 167, 168, 169] rfl (by decide +kernel)
set_option maxRecDepth 20000 in
theorem gX8_way_X8_findFar : GoodIn wsX8_way (wsV RX8 236 RX8 yX8_findFar wsX8_findFar) := goodIn_app (goodIn_of _ (by decide +kernel)) ggX8_way_X8_findFar
set_option maxRecDepth 20000 in
theorem ggX8_way_X8_isCallee : GoodIn wsX8_way wsX8_isCallee := goodIn_r _ [119, 110, 120, 121, 122, 123, 124, 125, 126, 127, 128, 129, 130, 131, 132, 133, 134, 135, 136, 137, 138, 139, 140, 141, 142, 143, 144, 145, 146, 147, 148, 149, 150, 151, 152, 153, 154, 155, 156, 157, 158, 159, 160, 161, 162, 163, 164, 165, 166, 167, 168, 169] rfl (by decide +kernel)
set_option maxRecDepth 20000 in
theorem gX8_way_X8_isCallee : GoodIn wsX8_way (wsV RX8 224 RX8 yX8_isCallee wsX8_isCallee) := goodIn_app (goodIn_of _ (by decide +kernel)) ggX8_way_X8_isCallee
theorem dX8_way_0 : decode cX8_way 0 = .ok (.aload_n 0, 1) := by decide +kernel
theorem dX8_way_1 : decode cX8_way 1 = .ok (.iload_n 1, 1) := by decide +kernel
theorem dX8_way_2 : decode cX8_way 2 = .ok (.invokevirtual 156, 3) := by decide +kernel
theorem dX8_way_5 : decode cX8_way 5 = .ok (.ifCond .ne 6, 3) := by decide +kernel
theorem dX8_way_8 : decode cX8_way 8 = .ok (.bipush (-101), 2) := by decide +kernel
theorem dX8_way_10 : decode cX8_way 10 = .ok (.ireturn, 1) := by decide +kernel
theorem dX8_way_11 : decode cX8_way 11 = .ok (.aload_n 0, 1) := by decide +kernel
theorem dX8_way_12 : decode cX8_way 12 = .ok (.invokevirtual 217, 3) := by decide +kernel
theorem dX8_way_15 : decode cX8_way 15 = .ok (.aload_n 0, 1) := by decide +kernel
theorem dX8_way_16 : decode cX8_way 16 = .ok (.getfield 50, 3) := by decide +kernel
theorem dX8_way_19 : decode cX8_way 19 = .ok (.iload_n 1, 1) := by decide +kernel
theorem dX8_way_20 : decode cX8_way 20 = .ok (.baload, 1) := by decide +kernel
theorem dX8_way_21 : decode cX8_way 21 = .ok (.ifCond .eq 7, 3) := by decide +kernel
theorem dX8_way_24 : decode cX8_way 24 = .ok (.iload_n 2, 1) := by decide +kernel
theorem dX8_way_25 : decode cX8_way 25 = .ok (.ifCond .ge 5, 3) := by decide +kernel
theorem dX8_way_28 : decode cX8_way 28 = .ok (.iconst (-1), 1) := by decide +kernel
theorem dX8_way_29 : decode cX8_way 29 = .ok (.ireturn, 1) := by decide +kernel
theorem dX8_way_30 : decode cX8_way 30 = .ok (.aload_n 0, 1) := by decide +kernel
theorem dX8_way_31 : decode cX8_way 31 = .ok (.iload_n 1, 1) := by decide +kernel
theorem dX8_way_32 : decode cX8_way 32 = .ok (.invokevirtual 236, 3) := by decide +kernel
theorem dX8_way_35 : decode cX8_way 35 = .ok (.iconst (-1), 1) := by decide +kernel
theorem dX8_way_36 : decode cX8_way 36 = .ok (.istore_n 3, 1) := by decide +kernel
theorem dX8_way_37 : decode cX8_way 37 = .ok (.aload_n 0, 1) := by decide +kernel
theorem dX8_way_38 : decode cX8_way 38 = .ok (.getfield 131, 3) := by decide +kernel
theorem dX8_way_41 : decode cX8_way 41 = .ok (.iconst 1, 1) := by decide +kernel
theorem dX8_way_42 : decode cX8_way 42 = .ok (.isub, 1) := by decide +kernel
theorem dX8_way_43 : decode cX8_way 43 = .ok (.istore 4, 2) := by decide +kernel
theorem dX8_way_45 : decode cX8_way 45 = .ok (.iload 4, 2) := by decide +kernel
theorem dX8_way_47 : decode cX8_way 47 = .ok (.ifCond .lt 47, 3) := by decide +kernel
theorem dX8_way_50 : decode cX8_way 50 = .ok (.aload_n 0, 1) := by decide +kernel
theorem dX8_way_51 : decode cX8_way 51 = .ok (.getfield 31, 3) := by decide +kernel
theorem dX8_way_54 : decode cX8_way 54 = .ok (.iload 4, 2) := by decide +kernel
theorem dX8_way_56 : decode cX8_way 56 = .ok (.baload, 1) := by decide +kernel
theorem dX8_way_57 : decode cX8_way 57 = .ok (.ifCond .eq 29, 3) := by decide +kernel
theorem dX8_way_60 : decode cX8_way 60 = .ok (.iload_n 3, 1) := by decide +kernel
theorem dX8_way_61 : decode cX8_way 61 = .ok (.iconst (-1), 1) := by decide +kernel
theorem dX8_way_62 : decode cX8_way 62 = .ok (.if_icmp .eq 19, 3) := by decide +kernel
theorem dX8_way_65 : decode cX8_way 65 = .ok (.aload_n 0, 1) := by decide +kernel
theorem dX8_way_66 : decode cX8_way 66 = .ok (.getfield 89, 3) := by decide +kernel
theorem dX8_way_69 : decode cX8_way 69 = .ok (.iload 4, 2) := by decide +kernel
theorem dX8_way_71 : decode cX8_way 71 = .ok (.iaload, 1) := by decide +kernel
theorem dX8_way_72 : decode cX8_way 72 = .ok (.aload_n 0, 1) := by decide +kernel
theorem dX8_way_73 : decode cX8_way 73 = .ok (.getfield 89, 3) := by decide +kernel
theorem dX8_way_76 : decode cX8_way 76 = .ok (.iload_n 3, 1) := by decide +kernel
theorem dX8_way_77 : decode cX8_way 77 = .ok (.iaload, 1) := by decide +kernel
theorem dX8_way_78 : decode cX8_way 78 = .ok (.if_icmp .gt 8, 3) := by decide +kernel
theorem dX8_way_81 : decode cX8_way 81 = .ok (.iload 4, 2) := by decide +kernel
theorem dX8_way_83 : decode cX8_way 83 = .ok (.goto 4, 3) := by decide +kernel
theorem dX8_way_86 : decode cX8_way 86 = .ok (.iload_n 3, 1) := by decide +kernel
theorem dX8_way_87 : decode cX8_way 87 = .ok (.istore_n 3, 1) := by decide +kernel
theorem dX8_way_88 : decode cX8_way 88 = .ok (.iinc 4 (-1), 3) := by decide +kernel
theorem dX8_way_91 : decode cX8_way 91 = .ok (.goto (-46), 3) := by decide +kernel
theorem dX8_way_94 : decode cX8_way 94 = .ok (.iload_n 2, 1) := by decide +kernel
theorem dX8_way_95 : decode cX8_way 95 = .ok (.aload_n 0, 1) := by decide +kernel
theorem dX8_way_96 : decode cX8_way 96 = .ok (.getfield 89, 3) := by decide +kernel
theorem dX8_way_99 : decode cX8_way 99 = .ok (.iload_n 3, 1) := by decide +kernel
theorem dX8_way_100 : decode cX8_way 100 = .ok (.iaload, 1) := by decide +kernel
theorem dX8_way_101 : decode cX8_way 101 = .ok (.if_icmp .le 5, 3) := by decide +kernel
theorem dX8_way_104 : decode cX8_way 104 = .ok (.iconst (-1), 1) := by decide +kernel
theorem dX8_way_105 : decode cX8_way 105 = .ok (.ireturn, 1) := by decide +kernel
theorem dX8_way_106 : decode cX8_way 106 = .ok (.iconst 0, 1) := by decide +kernel
theorem dX8_way_107 : decode cX8_way 107 = .ok (.istore 4, 2) := by decide +kernel
theorem dX8_way_109 : decode cX8_way 109 = .ok (.iload 4, 2) := by decide +kernel
theorem dX8_way_111 : decode cX8_way 111 = .ok (.iload_n 2, 1) := by decide +kernel
theorem dX8_way_112 : decode cX8_way 112 = .ok (.if_icmp .ge 71, 3) := by decide +kernel
theorem dX8_way_115 : decode cX8_way 115 = .ok (.iconst (-1), 1) := by decide +kernel
theorem dX8_way_116 : decode cX8_way 116 = .ok (.istore 5, 2) := by decide +kernel
theorem dX8_way_118 : decode cX8_way 118 = .ok (.aload_n 0, 1) := by decide +kernel
theorem dX8_way_119 : decode cX8_way 119 = .ok (.getfield 131, 3) := by decide +kernel
theorem dX8_way_122 : decode cX8_way 122 = .ok (.iconst 1, 1) := by decide +kernel
theorem dX8_way_123 : decode cX8_way 123 = .ok (.isub, 1) := by decide +kernel
theorem dX8_way_124 : decode cX8_way 124 = .ok (.istore 6, 2) := by decide +kernel
theorem dX8_way_126 : decode cX8_way 126 = .ok (.iload 6, 2) := by decide +kernel
theorem dX8_way_128 : decode cX8_way 128 = .ok (.ifCond .lt 46, 3) := by decide +kernel
theorem dX8_way_131 : decode cX8_way 131 = .ok (.aload_n 0, 1) := by decide +kernel
theorem dX8_way_132 : decode cX8_way 132 = .ok (.getfield 89, 3) := by decide +kernel
theorem dX8_way_135 : decode cX8_way 135 = .ok (.iload 6, 2) := by decide +kernel
theorem dX8_way_137 : decode cX8_way 137 = .ok (.iaload, 1) := by decide +kernel
theorem dX8_way_138 : decode cX8_way 138 = .ok (.aload_n 0, 1) := by decide +kernel
theorem dX8_way_139 : decode cX8_way 139 = .ok (.getfield 89, 3) := by decide +kernel
theorem dX8_way_142 : decode cX8_way 142 = .ok (.iload_n 3, 1) := by decide +kernel
theorem dX8_way_143 : decode cX8_way 143 = .ok (.iaload, 1) := by decide +kernel
theorem dX8_way_144 : decode cX8_way 144 = .ok (.iconst 1, 1) := by decide +kernel
theorem dX8_way_145 : decode cX8_way 145 = .ok (.isub, 1) := by decide +kernel
theorem dX8_way_146 : decode cX8_way 146 = .ok (.if_icmp .ne 18, 3) := by decide +kernel
theorem dX8_way_149 : decode cX8_way 149 = .ok (.aload_n 0, 1) := by decide +kernel
theorem dX8_way_150 : decode cX8_way 150 = .ok (.iload_n 3, 1) := by decide +kernel
theorem dX8_way_151 : decode cX8_way 151 = .ok (.iload 6, 2) := by decide +kernel
theorem dX8_way_153 : decode cX8_way 153 = .ok (.invokevirtual 224, 3) := by decide +kernel
theorem dX8_way_156 : decode cX8_way 156 = .ok (.ifCond .eq 8, 3) := by decide +kernel
theorem dX8_way_159 : decode cX8_way 159 = .ok (.iload 6, 2) := by decide +kernel
theorem dX8_way_161 : decode cX8_way 161 = .ok (.goto 5, 3) := by decide +kernel
theorem dX8_way_164 : decode cX8_way 164 = .ok (.iload 5, 2) := by decide +kernel
theorem dX8_way_166 : decode cX8_way 166 = .ok (.istore 5, 2) := by decide +kernel
theorem dX8_way_168 : decode cX8_way 168 = .ok (.iinc 6 (-1), 3) := by decide +kernel
theorem dX8_way_171 : decode cX8_way 171 = .ok (.goto (-45), 3) := by decide +kernel
theorem dX8_way_174 : decode cX8_way 174 = .ok (.iload 5, 2) := by decide +kernel
theorem dX8_way_176 : decode cX8_way 176 = .ok (.istore_n 3, 1) := by decide +kernel
theorem dX8_way_177 : decode cX8_way 177 = .ok (.iinc 4 1, 3) := by decide +kernel
theorem dX8_way_180 : decode cX8_way 180 = .ok (.goto (-71), 3) := by decide +kernel
theorem dX8_way_183 : decode cX8_way 183 = .ok (.iload_n 3, 1) := by decide +kernel
theorem dX8_way_184 : decode cX8_way 184 = .ok (.ireturn, 1) := by decide +kernel
theorem dX8_draw_0 : decode cX8_draw 0 = .ok (.aload_n 0, 1) := by decide +kernel
theorem dX8_draw_1 : decode cX8_draw 1 = .ok (.aload_n 0, 1) := by decide +kernel
theorem dX8_draw_2 : decode cX8_draw 2 = .ok (.getfield 239, 3) := by decide +kernel
theorem dX8_draw_5 : decode cX8_draw 5 = .ok (.ldc2_w 243, 3) := by decide +kernel
theorem dX8_draw_8 : decode cX8_draw 8 = .ok (.lmul, 1) := by decide +kernel
theorem dX8_draw_9 : decode cX8_draw 9 = .ok (.ldc2_w 245, 3) := by decide +kernel
theorem dX8_draw_12 : decode cX8_draw 12 = .ok (.ladd, 1) := by decide +kernel
theorem dX8_draw_13 : decode cX8_draw 13 = .ok (.putfield 239, 3) := by decide +kernel
theorem dX8_draw_16 : decode cX8_draw 16 = .ok (.aload_n 0, 1) := by decide +kernel
theorem dX8_draw_17 : decode cX8_draw 17 = .ok (.getfield 239, 3) := by decide +kernel
theorem dX8_draw_20 : decode cX8_draw 20 = .ok (.bipush 33, 2) := by decide +kernel
theorem dX8_draw_22 : decode cX8_draw 22 = .ok (.lushr, 1) := by decide +kernel
theorem dX8_draw_23 : decode cX8_draw 23 = .ok (.iload_n 1, 1) := by decide +kernel
theorem dX8_draw_24 : decode cX8_draw 24 = .ok (.i2l, 1) := by decide +kernel
theorem dX8_draw_25 : decode cX8_draw 25 = .ok (.lrem, 1) := by decide +kernel
theorem dX8_draw_26 : decode cX8_draw 26 = .ok (.l2i, 1) := by decide +kernel
theorem dX8_draw_27 : decode cX8_draw 27 = .ok (.ireturn, 1) := by decide +kernel
theorem dX8_push_0 : decode cX8_push 0 = .ok (.aload_n 0, 1) := by decide +kernel
theorem dX8_push_1 : decode cX8_push 1 = .ok (.getfield 92, 3) := by decide +kernel
theorem dX8_push_4 : decode cX8_push 4 = .ok (.aload_n 0, 1) := by decide +kernel
theorem dX8_push_5 : decode cX8_push 5 = .ok (.getfield 247, 3) := by decide +kernel
theorem dX8_push_8 : decode cX8_push 8 = .ok (.iload_n 1, 1) := by decide +kernel
theorem dX8_push_9 : decode cX8_push 9 = .ok (.iastore, 1) := by decide +kernel
theorem dX8_push_10 : decode cX8_push 10 = .ok (.aload_n 0, 1) := by decide +kernel
theorem dX8_push_11 : decode cX8_push 11 = .ok (.getfield 95, 3) := by decide +kernel
theorem dX8_push_14 : decode cX8_push 14 = .ok (.aload_n 0, 1) := by decide +kernel
theorem dX8_push_15 : decode cX8_push 15 = .ok (.getfield 247, 3) := by decide +kernel
theorem dX8_push_18 : decode cX8_push 18 = .ok (.iload_n 2, 1) := by decide +kernel
theorem dX8_push_19 : decode cX8_push 19 = .ok (.iastore, 1) := by decide +kernel
theorem dX8_push_20 : decode cX8_push 20 = .ok (.aload_n 0, 1) := by decide +kernel
theorem dX8_push_21 : decode cX8_push 21 = .ok (.getfield 98, 3) := by decide +kernel
theorem dX8_push_24 : decode cX8_push 24 = .ok (.aload_n 0, 1) := by decide +kernel
theorem dX8_push_25 : decode cX8_push 25 = .ok (.getfield 247, 3) := by decide +kernel
theorem dX8_push_28 : decode cX8_push 28 = .ok (.iconst 0, 1) := by decide +kernel
theorem dX8_push_29 : decode cX8_push 29 = .ok (.iastore, 1) := by decide +kernel
theorem dX8_push_30 : decode cX8_push 30 = .ok (.aload_n 0, 1) := by decide +kernel
theorem dX8_push_31 : decode cX8_push 31 = .ok (.getfield 101, 3) := by decide +kernel
theorem dX8_push_34 : decode cX8_push 34 = .ok (.aload_n 0, 1) := by decide +kernel
theorem dX8_push_35 : decode cX8_push 35 = .ok (.getfield 247, 3) := by decide +kernel
theorem dX8_push_38 : decode cX8_push 38 = .ok (.iload_n 3, 1) := by decide +kernel
theorem dX8_push_39 : decode cX8_push 39 = .ok (.iastore, 1) := by decide +kernel
theorem dX8_push_40 : decode cX8_push 40 = .ok (.aload_n 0, 1) := by decide +kernel
theorem dX8_push_41 : decode cX8_push 41 = .ok (.dup, 1) := by decide +kernel
theorem dX8_push_42 : decode cX8_push 42 = .ok (.getfield 247, 3) := by decide +kernel
theorem dX8_push_45 : decode cX8_push 45 = .ok (.iconst 1, 1) := by decide +kernel
theorem dX8_push_46 : decode cX8_push 46 = .ok (.iadd, 1) := by decide +kernel
theorem dX8_push_47 : decode cX8_push 47 = .ok (.putfield 247, 3) := by decide +kernel
theorem dX8_push_50 : decode cX8_push 50 = .ok (.return_, 1) := by decide +kernel
set_option maxRecDepth 20000 in
theorem ggX8_runNow_X8_push : GoodIn wsX8_runNow wsX8_push := goodIn_r _ [13, 14, 15, 16, 17, 18, 19, 20, 21, 22, 23, 24, 25, 26, 27, 28, 29, 30, 31, 32, 33, 34, 35, 36, 37, 38, 39, 40, 41, 42, 43, 44, 45, 46, 47, 48, 49, 50, 51, 52, 53, 54, 55, 56, 57, 58, 59, 60, 61, 62, 63, 64, 65, 66, 67, 68] rfl (by decide +kernel)
set_option maxRecDepth 20000 in
theorem gX8_runNow_X8_push : GoodIn wsX8_runNow (wsV RX8 265 RX8 yX8_push wsX8_push) := goodIn_app (goodIn_of _ (by decide +kernel)) ggX8_runNow_X8_push
theorem dX8_runNow_0 : decode cX8_runNow 0 = .ok (.aload_n 0, 1) := by decide +kernel
theorem dX8_runNow_1 : decode cX8_runNow 1 = .ok (.aload_n 0, 1) := by decide +kernel
theorem dX8_runNow_2 : decode cX8_runNow 2 = .ok (.getfield 250, 3) := by decide +kernel
theorem dX8_runNow_5 : decode cX8_runNow 5 = .ok (.ifCond .eq 35, 3) := by decide +kernel
theorem dX8_runNow_8 : decode cX8_runNow 8 = .ok (.aload_n 0, 1) := by decide +kernel
theorem dX8_runNow_9 : decode cX8_runNow 9 = .ok (.getfield 50, 3) := by decide +kernel
theorem dX8_runNow_12 : decode cX8_runNow 12 = .ok (.iload_n 1, 1) := by decide +kernel
theorem dX8_runNow_13 : decode cX8_runNow 13 = .ok (.baload, 1) := by decide +kernel
theorem dX8_runNow_14 : decode cX8_runNow 14 = .ok (.ifCond .eq 26, 3) := by decide +kernel
theorem dX8_runNow_17 : decode cX8_runNow 17 = .ok (.iload_n 2, 1) := by decide +kernel
theorem dX8_runNow_18 : decode cX8_runNow 18 = .ok (.iconst (-1), 1) := by decide +kernel
theorem dX8_runNow_19 : decode cX8_runNow 19 = .ok (.if_icmp .eq 17, 3) := by decide +kernel
theorem dX8_runNow_22 : decode cX8_runNow 22 = .ok (.aload_n 0, 1) := by decide +kernel
theorem dX8_runNow_23 : decode cX8_runNow 23 = .ok (.getfield 62, 3) := by decide +kernel
theorem dX8_runNow_26 : decode cX8_runNow 26 = .ok (.bipush 48, 2) := by decide +kernel
theorem dX8_runNow_28 : decode cX8_runNow 28 = .ok (.iload_n 2, 1) := by decide +kernel
theorem dX8_runNow_29 : decode cX8_runNow 29 = .ok (.imul, 1) := by decide +kernel
theorem dX8_runNow_30 : decode cX8_runNow 30 = .ok (.iload_n 1, 1) := by decide +kernel
theorem dX8_runNow_31 : decode cX8_runNow 31 = .ok (.iadd, 1) := by decide +kernel
theorem dX8_runNow_32 : decode cX8_runNow 32 = .ok (.baload, 1) := by decide +kernel
theorem dX8_runNow_33 : decode cX8_runNow 33 = .ok (.ifCond .eq 7, 3) := by decide +kernel
theorem dX8_runNow_36 : decode cX8_runNow 36 = .ok (.iconst 1, 1) := by decide +kernel
theorem dX8_runNow_37 : decode cX8_runNow 37 = .ok (.goto 4, 3) := by decide +kernel
theorem dX8_runNow_40 : decode cX8_runNow 40 = .ok (.iconst 0, 1) := by decide +kernel
theorem dX8_runNow_41 : decode cX8_runNow 41 = .ok (.putfield 250, 3) := by decide +kernel
theorem dX8_runNow_44 : decode cX8_runNow 44 = .ok (.aload_n 0, 1) := by decide +kernel
theorem dX8_runNow_45 : decode cX8_runNow 45 = .ok (.getfield 253, 3) := by decide +kernel
theorem dX8_runNow_48 : decode cX8_runNow 48 = .ok (.bipush 12, 2) := by decide +kernel
theorem dX8_runNow_50 : decode cX8_runNow 50 = .ok (.if_icmp .eq 13, 3) := by decide +kernel
theorem dX8_runNow_53 : decode cX8_runNow 53 = .ok (.aload_n 0, 1) := by decide +kernel
theorem dX8_runNow_54 : decode cX8_runNow 54 = .ok (.getfield 256, 3) := by decide +kernel
theorem dX8_runNow_57 : decode cX8_runNow 57 = .ok (.sipush 300, 3) := by decide +kernel
theorem dX8_runNow_60 : decode cX8_runNow 60 = .ok (.if_icmp .ne 14, 3) := by decide +kernel
theorem dX8_runNow_63 : decode cX8_runNow 63 = .ok (.aload_n 0, 1) := by decide +kernel
theorem dX8_runNow_64 : decode cX8_runNow 64 = .ok (.dup, 1) := by decide +kernel
theorem dX8_runNow_65 : decode cX8_runNow 65 = .ok (.getfield 259, 3) := by decide +kernel
theorem dX8_runNow_68 : decode cX8_runNow 68 = .ok (.iconst 1, 1) := by decide +kernel
theorem dX8_runNow_69 : decode cX8_runNow 69 = .ok (.iadd, 1) := by decide +kernel
theorem dX8_runNow_70 : decode cX8_runNow 70 = .ok (.putfield 259, 3) := by decide +kernel
theorem dX8_runNow_73 : decode cX8_runNow 73 = .ok (.return_, 1) := by decide +kernel
theorem dX8_runNow_74 : decode cX8_runNow 74 = .ok (.aload_n 0, 1) := by decide +kernel
theorem dX8_runNow_75 : decode cX8_runNow 75 = .ok (.dup, 1) := by decide +kernel
theorem dX8_runNow_76 : decode cX8_runNow 76 = .ok (.getfield 256, 3) := by decide +kernel
theorem dX8_runNow_79 : decode cX8_runNow 79 = .ok (.iconst 1, 1) := by decide +kernel
theorem dX8_runNow_80 : decode cX8_runNow 80 = .ok (.iadd, 1) := by decide +kernel
theorem dX8_runNow_81 : decode cX8_runNow 81 = .ok (.putfield 256, 3) := by decide +kernel
theorem dX8_runNow_84 : decode cX8_runNow 84 = .ok (.aload_n 0, 1) := by decide +kernel
theorem dX8_runNow_85 : decode cX8_runNow 85 = .ok (.dup, 1) := by decide +kernel
theorem dX8_runNow_86 : decode cX8_runNow 86 = .ok (.getfield 253, 3) := by decide +kernel
theorem dX8_runNow_89 : decode cX8_runNow 89 = .ok (.iconst 1, 1) := by decide +kernel
theorem dX8_runNow_90 : decode cX8_runNow 90 = .ok (.iadd, 1) := by decide +kernel
theorem dX8_runNow_91 : decode cX8_runNow 91 = .ok (.putfield 253, 3) := by decide +kernel
theorem dX8_runNow_94 : decode cX8_runNow 94 = .ok (.aload_n 0, 1) := by decide +kernel
theorem dX8_runNow_95 : decode cX8_runNow 95 = .ok (.getfield 104, 3) := by decide +kernel
theorem dX8_runNow_98 : decode cX8_runNow 98 = .ok (.iload_n 1, 1) := by decide +kernel
theorem dX8_runNow_99 : decode cX8_runNow 99 = .ok (.iconst 1, 1) := by decide +kernel
theorem dX8_runNow_100 : decode cX8_runNow 100 = .ok (.bastore, 1) := by decide +kernel
theorem dX8_runNow_101 : decode cX8_runNow 101 = .ok (.aload_n 0, 1) := by decide +kernel
theorem dX8_runNow_102 : decode cX8_runNow 102 = .ok (.iload_n 1, 1) := by decide +kernel
theorem dX8_runNow_103 : decode cX8_runNow 103 = .ok (.putfield 262, 3) := by decide +kernel
theorem dX8_runNow_106 : decode cX8_runNow 106 = .ok (.aload_n 0, 1) := by decide +kernel
theorem dX8_runNow_107 : decode cX8_runNow 107 = .ok (.iconst 0, 1) := by decide +kernel
theorem dX8_runNow_108 : decode cX8_runNow 108 = .ok (.iload_n 1, 1) := by decide +kernel
theorem dX8_runNow_109 : decode cX8_runNow 109 = .ok (.iconst (-1), 1) := by decide +kernel
theorem dX8_runNow_110 : decode cX8_runNow 110 = .ok (.invokevirtual 265, 3) := by decide +kernel
theorem dX8_runNow_113 : decode cX8_runNow 113 = .ok (.return_, 1) := by decide +kernel
set_option maxRecDepth 20000 in
theorem ggX8_beginNow_X8_ownOf : GoodIn wsX8_beginNow wsX8_ownOf := goodIn_r _ [11, 12, 13, 14, 42, 43, 44, 45, 46, 47, 48, 49, 50, 51, 52, 53, 54, 55, 56, 57, 58, 59, 60, 61, 62, 63, 64, 65, 66, 67, 68, 69, 70, 71, 72, 73, 74, 75, 76, 77, 78, 79, 80, 81, 82, 83, 84, 85, 86, 87, 88, 89, 90, 91] rfl (by decide +kernel)
set_option maxRecDepth 20000 in
theorem gX8_beginNow_X8_ownOf : GoodIn wsX8_beginNow (wsV RX8 145 RX8 yX8_ownOf wsX8_ownOf) := goodIn_app (goodIn_of _ (by decide +kernel)) ggX8_beginNow_X8_ownOf
set_option maxRecDepth 20000 in
theorem ggX8_beginNow_X8_push : GoodIn wsX8_beginNow wsX8_push := goodIn_r _ [18, 19, 20, 21, 22, 23, 42, 43, 44, 45, 46, 47, 48, 49, 50, 51, 52, 53, 54, 55, 56, 57, 58, 59, 60, 61, 62, 63, 64, 65, 66, 67, 68, 69, 70, 71, 72, 73, 74, 75, 76, 77, 78, 79, 80, 81, 82, 83, 84, 85, 86, 87, 88, 89, 90, 91] rfl (by decide +kernel)
set_option maxRecDepth 20000 in
theorem gX8_beginNow_X8_push : GoodIn wsX8_beginNow (wsV RX8 265 RX8 yX8_push wsX8_push) := goodIn_app (goodIn_of _ (by decide +kernel)) ggX8_beginNow_X8_push
set_option maxRecDepth 20000 in
theorem ggX8_beginNow_X8_isUnder : GoodIn wsX8_beginNow wsX8_isUnder := goodIn_r _ [27, 28, 5, 29, 30, 31, 32, 33, 10, 34, 6, 35, 36, 42, 43, 44, 45, 46, 47, 48, 49, 50, 51, 52, 53, 54, 55, 56, 57, 58, 59, 60, 61, 62, 63, 64, 65, 66, 67, 68, 69, 70, 71, 72, 73, 74, 75, 76, 77, 78, 79, 80, 81, 82, 83, 84, 85, 86, 87, 88, 89, 90, 91] rfl (by decide +kernel)
set_option maxRecDepth 20000 in
theorem gX8_beginNow_X8_isUnder : GoodIn wsX8_beginNow (wsV RX8 166 RX8 yX8_isUnder wsX8_isUnder) := goodIn_app (goodIn_of _ (by decide +kernel)) ggX8_beginNow_X8_isUnder
set_option maxRecDepth 20000 in
theorem ggX8_beginNow_X8_hasPlain : GoodIn wsX8_beginNow wsX8_hasPlain := goodIn_r _ [40, 12, 13, 41, 42, 43, 44, 45, 46, 47, 48, 49, 50, 51, 52, 53, 54, 55, 56, 57, 58, 59, 60, 61, 62, 63, 64, 65, 66, 67, 68, 69, 70, 71, 72, 73, 74, 75, 76, 77, 78, 79, 80, 81, 82, 83, 84, 85, 86, 87, 88, 89, 90, 91] rfl (by decide +kernel)
set_option maxRecDepth 20000 in
theorem gX8_beginNow_X8_hasPlain : GoodIn wsX8_beginNow (wsV RX8 183 RX8 yX8_hasPlain wsX8_hasPlain) := goodIn_app (goodIn_of _ (by decide +kernel)) ggX8_beginNow_X8_hasPlain
theorem dX8_beginNow_0 : decode cX8_beginNow 0 = .ok (.aload_n 0, 1) := by decide +kernel
theorem dX8_beginNow_1 : decode cX8_beginNow 1 = .ok (.getfield 107, 3) := by decide +kernel
theorem dX8_beginNow_4 : decode cX8_beginNow 4 = .ok (.iload_n 1, 1) := by decide +kernel
theorem dX8_beginNow_5 : decode cX8_beginNow 5 = .ok (.baload, 1) := by decide +kernel
theorem dX8_beginNow_6 : decode cX8_beginNow 6 = .ok (.ifCond .eq 4, 3) := by decide +kernel
theorem dX8_beginNow_9 : decode cX8_beginNow 9 = .ok (.return_, 1) := by decide +kernel
theorem dX8_beginNow_10 : decode cX8_beginNow 10 = .ok (.aload_n 0, 1) := by decide +kernel
theorem dX8_beginNow_11 : decode cX8_beginNow 11 = .ok (.getfield 107, 3) := by decide +kernel
theorem dX8_beginNow_14 : decode cX8_beginNow 14 = .ok (.iload_n 1, 1) := by decide +kernel
theorem dX8_beginNow_15 : decode cX8_beginNow 15 = .ok (.iconst 1, 1) := by decide +kernel
theorem dX8_beginNow_16 : decode cX8_beginNow 16 = .ok (.bastore, 1) := by decide +kernel
theorem dX8_beginNow_17 : decode cX8_beginNow 17 = .ok (.aload_n 0, 1) := by decide +kernel
theorem dX8_beginNow_18 : decode cX8_beginNow 18 = .ok (.aload_n 0, 1) := by decide +kernel
theorem dX8_beginNow_19 : decode cX8_beginNow 19 = .ok (.getfield 250, 3) := by decide +kernel
theorem dX8_beginNow_22 : decode cX8_beginNow 22 = .ok (.ifCond .eq 16, 3) := by decide +kernel
theorem dX8_beginNow_25 : decode cX8_beginNow 25 = .ok (.aload_n 0, 1) := by decide +kernel
theorem dX8_beginNow_26 : decode cX8_beginNow 26 = .ok (.getfield 56, 3) := by decide +kernel
theorem dX8_beginNow_29 : decode cX8_beginNow 29 = .ok (.iload_n 1, 1) := by decide +kernel
theorem dX8_beginNow_30 : decode cX8_beginNow 30 = .ok (.baload, 1) := by decide +kernel
theorem dX8_beginNow_31 : decode cX8_beginNow 31 = .ok (.ifCond .eq 7, 3) := by decide +kernel
theorem dX8_beginNow_34 : decode cX8_beginNow 34 = .ok (.iconst 1, 1) := by decide +kernel
theorem dX8_beginNow_35 : decode cX8_beginNow 35 = .ok (.goto 4, 3) := by decide +kernel
theorem dX8_beginNow_38 : decode cX8_beginNow 38 = .ok (.iconst 0, 1) := by decide +kernel
theorem dX8_beginNow_39 : decode cX8_beginNow 39 = .ok (.putfield 250, 3) := by decide +kernel
theorem dX8_beginNow_42 : decode cX8_beginNow 42 = .ok (.aload_n 0, 1) := by decide +kernel
theorem dX8_beginNow_43 : decode cX8_beginNow 43 = .ok (.iload_n 1, 1) := by decide +kernel
theorem dX8_beginNow_44 : decode cX8_beginNow 44 = .ok (.iconst (-1), 1) := by decide +kernel
theorem dX8_beginNow_45 : decode cX8_beginNow 45 = .ok (.invokevirtual 145, 3) := by decide +kernel
theorem dX8_beginNow_48 : decode cX8_beginNow 48 = .ok (.istore_n 3, 1) := by decide +kernel
theorem dX8_beginNow_49 : decode cX8_beginNow 49 = .ok (.iload_n 3, 1) := by decide +kernel
theorem dX8_beginNow_50 : decode cX8_beginNow 50 = .ok (.iconst (-1), 1) := by decide +kernel
theorem dX8_beginNow_51 : decode cX8_beginNow 51 = .ok (.if_icmp .eq 10, 3) := by decide +kernel
theorem dX8_beginNow_54 : decode cX8_beginNow 54 = .ok (.aload_n 0, 1) := by decide +kernel
theorem dX8_beginNow_55 : decode cX8_beginNow 55 = .ok (.iconst 1, 1) := by decide +kernel
theorem dX8_beginNow_56 : decode cX8_beginNow 56 = .ok (.iload_n 3, 1) := by decide +kernel
theorem dX8_beginNow_57 : decode cX8_beginNow 57 = .ok (.iload_n 2, 1) := by decide +kernel
theorem dX8_beginNow_58 : decode cX8_beginNow 58 = .ok (.invokevirtual 265, 3) := by decide +kernel
theorem dX8_beginNow_61 : decode cX8_beginNow 61 = .ok (.aload_n 0, 1) := by decide +kernel
theorem dX8_beginNow_62 : decode cX8_beginNow 62 = .ok (.getfield 7, 3) := by decide +kernel
theorem dX8_beginNow_65 : decode cX8_beginNow 65 = .ok (.iload_n 1, 1) := by decide +kernel
theorem dX8_beginNow_66 : decode cX8_beginNow 66 = .ok (.iaload, 1) := by decide +kernel
theorem dX8_beginNow_67 : decode cX8_beginNow 67 = .ok (.iconst 2, 1) := by decide +kernel
theorem dX8_beginNow_68 : decode cX8_beginNow 68 = .ok (.if_icmp .eq 82, 3) := by decide +kernel
theorem dX8_beginNow_71 : decode cX8_beginNow 71 = .ok (.aload_n 0, 1) := by decide +kernel
theorem dX8_beginNow_72 : decode cX8_beginNow 72 = .ok (.getfield 123, 3) := by decide +kernel
theorem dX8_beginNow_75 : decode cX8_beginNow 75 = .ok (.iconst 1, 1) := by decide +kernel
theorem dX8_beginNow_76 : decode cX8_beginNow 76 = .ok (.isub, 1) := by decide +kernel
theorem dX8_beginNow_77 : decode cX8_beginNow 77 = .ok (.istore 4, 2) := by decide +kernel
theorem dX8_beginNow_79 : decode cX8_beginNow 79 = .ok (.iload 4, 2) := by decide +kernel
theorem dX8_beginNow_81 : decode cX8_beginNow 81 = .ok (.ifCond .lt 47, 3) := by decide +kernel
theorem dX8_beginNow_84 : decode cX8_beginNow 84 = .ok (.aload_n 0, 1) := by decide +kernel
theorem dX8_beginNow_85 : decode cX8_beginNow 85 = .ok (.iload_n 1, 1) := by decide +kernel
theorem dX8_beginNow_86 : decode cX8_beginNow 86 = .ok (.iload 4, 2) := by decide +kernel
theorem dX8_beginNow_88 : decode cX8_beginNow 88 = .ok (.invokevirtual 166, 3) := by decide +kernel
theorem dX8_beginNow_91 : decode cX8_beginNow 91 = .ok (.ifCond .eq 31, 3) := by decide +kernel
theorem dX8_beginNow_94 : decode cX8_beginNow 94 = .ok (.aload_n 0, 1) := by decide +kernel
theorem dX8_beginNow_95 : decode cX8_beginNow 95 = .ok (.getfield 7, 3) := by decide +kernel
theorem dX8_beginNow_98 : decode cX8_beginNow 98 = .ok (.iload 4, 2) := by decide +kernel
theorem dX8_beginNow_100 : decode cX8_beginNow 100 = .ok (.iaload, 1) := by decide +kernel
theorem dX8_beginNow_101 : decode cX8_beginNow 101 = .ok (.iconst 2, 1) := by decide +kernel
theorem dX8_beginNow_102 : decode cX8_beginNow 102 = .ok (.if_icmp .ne 20, 3) := by decide +kernel
theorem dX8_beginNow_105 : decode cX8_beginNow 105 = .ok (.aload_n 0, 1) := by decide +kernel
theorem dX8_beginNow_106 : decode cX8_beginNow 106 = .ok (.iload 4, 2) := by decide +kernel
theorem dX8_beginNow_108 : decode cX8_beginNow 108 = .ok (.invokevirtual 183, 3) := by decide +kernel
theorem dX8_beginNow_111 : decode cX8_beginNow 111 = .ok (.ifCond .eq 11, 3) := by decide +kernel
theorem dX8_beginNow_114 : decode cX8_beginNow 114 = .ok (.aload_n 0, 1) := by decide +kernel
theorem dX8_beginNow_115 : decode cX8_beginNow 115 = .ok (.iconst 2, 1) := by decide +kernel
theorem dX8_beginNow_116 : decode cX8_beginNow 116 = .ok (.iload 4, 2) := by decide +kernel
theorem dX8_beginNow_118 : decode cX8_beginNow 118 = .ok (.iload_n 2, 1) := by decide +kernel
theorem dX8_beginNow_119 : decode cX8_beginNow 119 = .ok (.invokevirtual 265, 3) := by decide +kernel
theorem dX8_beginNow_122 : decode cX8_beginNow 122 = .ok (.iinc 4 (-1), 3) := by decide +kernel
theorem dX8_beginNow_125 : decode cX8_beginNow 125 = .ok (.goto (-46), 3) := by decide +kernel
theorem dX8_beginNow_128 : decode cX8_beginNow 128 = .ok (.aload_n 0, 1) := by decide +kernel
theorem dX8_beginNow_129 : decode cX8_beginNow 129 = .ok (.getfield 13, 3) := by decide +kernel
theorem dX8_beginNow_132 : decode cX8_beginNow 132 = .ok (.iload_n 1, 1) := by decide +kernel
theorem dX8_beginNow_133 : decode cX8_beginNow 133 = .ok (.iaload, 1) := by decide +kernel
theorem dX8_beginNow_134 : decode cX8_beginNow 134 = .ok (.iconst (-1), 1) := by decide +kernel
theorem dX8_beginNow_135 : decode cX8_beginNow 135 = .ok (.if_icmp .eq 15, 3) := by decide +kernel
theorem dX8_beginNow_138 : decode cX8_beginNow 138 = .ok (.aload_n 0, 1) := by decide +kernel
theorem dX8_beginNow_139 : decode cX8_beginNow 139 = .ok (.iconst 2, 1) := by decide +kernel
theorem dX8_beginNow_140 : decode cX8_beginNow 140 = .ok (.aload_n 0, 1) := by decide +kernel
theorem dX8_beginNow_141 : decode cX8_beginNow 141 = .ok (.getfield 13, 3) := by decide +kernel
theorem dX8_beginNow_144 : decode cX8_beginNow 144 = .ok (.iload_n 1, 1) := by decide +kernel
theorem dX8_beginNow_145 : decode cX8_beginNow 145 = .ok (.iaload, 1) := by decide +kernel
theorem dX8_beginNow_146 : decode cX8_beginNow 146 = .ok (.iload_n 2, 1) := by decide +kernel
theorem dX8_beginNow_147 : decode cX8_beginNow 147 = .ok (.invokevirtual 265, 3) := by decide +kernel
theorem dX8_beginNow_150 : decode cX8_beginNow 150 = .ok (.return_, 1) := by decide +kernel
set_option maxRecDepth 20000 in
theorem ggX8_runCall_X8_isUnder : GoodIn wsX8_runCall wsX8_isUnder := goodIn_r _ [9, 10, 11, 12, 13, 14, 15, 16, 8, 17, 18, 19, 20, 64, 65, 66, 67, 68, 69, 70, 71, 72, 73, 74, 75, 76, 77, 78, 79, 80, 81, 82, 83, 84, 85, 86, 87, 88, 89, 90, 91, 92, 93, 94, 95, 96, 97, 98, 99, 100, 101, 102, 103, 104, 105, 106, 107, 108, 109, 110, 111, 112, 113] rfl (by decide +kernel)
set_option maxRecDepth 20000 in
theorem gX8_runCall_X8_isUnder : GoodIn wsX8_runCall (wsV RX8 166 RX8 yX8_isUnder wsX8_isUnder) := goodIn_app (goodIn_of _ (by decide +kernel)) ggX8_runCall_X8_isUnder
set_option maxRecDepth 20000 in
theorem ggX8_runCall_X8_draw : GoodIn wsX8_runCall wsX8_draw := goodIn_r _ [24, 25, 26, 27, 64, 65, 66, 67, 68, 69, 70, 71, 72, 73, 74, 75, 76, 77, 78, 79, 80, 81, 82, 83, 84, 85, 86, 87, 88, 89, 90, 91, 92, 93, 94, 95, 96, 97, 98, 99, 100, 101, 102, 103, 104, 105, 106, 107, 108, 109, 110, 111, 112, 113] rfl (by decide +kernel)
set_option maxRecDepth 20000 in
theorem gX8_runCall_X8_draw : GoodIn wsX8_runCall (wsV RX8 271 RX8 yX8_draw wsX8_draw) := goodIn_app (goodIn_of _ (by decide +kernel)) ggX8_runCall_X8_draw
set_option maxRecDepth 20000 in
theorem ggX8_runCall_X8_chosenOf : GoodIn wsX8_runCall wsX8_chosenOf := goodIn_r _ [31, 32, 33, 34, 35, 8, 36, 37, 18, 38, 39, 40, 41, 42, 43, 44, 45, 46, 47, 48, 49, 50, 11, 5, 6, 7, 9, 10, 12, 13, 14, 15, 16, 17, 19, 20, 51, 52, 53, 54, 64, 65, 66, 67, 68, 69, 70, 71, 72, 73, 74, 75, 76, 77, 78, 79, 80, 81, 82, 83, 84, 85, 86, 87, 88, 89, 90, 91, 92, 93, 94, 95, 96, 97, 98, 99, 100, 101, 102, 103, 104, 105, 106, 107, 108, 109, 110, 111, 112, 113] rfl (by decide +kernel)
set_option maxRecDepth 20000 in
theorem gX8_runCall_X8_chosenOf : GoodIn wsX8_runCall (wsV RX8 179 RX8 yX8_chosenOf wsX8_chosenOf) := goodIn_app (goodIn_of _ (by decide +kernel)) ggX8_runCall_X8_chosenOf
set_option maxRecDepth 20000 in
theorem ggX8_runCall_X8_push : GoodIn wsX8_runCall wsX8_push := goodIn_r _ [58, 59, 60, 61, 62, 63, 64, 65, 66, 67, 68, 69, 70, 71, 72, 73, 74, 75, 76, 77, 78, 79, 80, 81, 82, 83, 84, 85, 86, 87, 88, 89, 90, 91, 92, 93, 94, 95, 96, 97, 98, 99, 100, 101, 102, 103, 104, 105, 106, 107, 108, 109, 110, 111, 112, 113] rfl (by decide +kernel)
set_option maxRecDepth 20000 in
theorem gX8_runCall_X8_push : GoodIn wsX8_runCall (wsV RX8 265 RX8 yX8_push wsX8_push) := goodIn_app (goodIn_of _ (by decide +kernel)) ggX8_runCall_X8_push
theorem dX8_runCall_0 : decode cX8_runCall 0 = .ok (.aload_n 0, 1) := by decide +kernel
theorem dX8_runCall_1 : decode cX8_runCall 1 = .ok (.getfield 44, 3) := by decide +kernel
theorem dX8_runCall_4 : decode cX8_runCall 4 = .ok (.iload_n 1, 1) := by decide +kernel
theorem dX8_runCall_5 : decode cX8_runCall 5 = .ok (.iaload, 1) := by decide +kernel
theorem dX8_runCall_6 : decode cX8_runCall 6 = .ok (.istore_n 2, 1) := by decide +kernel
theorem dX8_runCall_7 : decode cX8_runCall 7 = .ok (.iconst 0, 1) := by decide +kernel
theorem dX8_runCall_8 : decode cX8_runCall 8 = .ok (.istore_n 3, 1) := by decide +kernel
theorem dX8_runCall_9 : decode cX8_runCall 9 = .ok (.iconst 0, 1) := by decide +kernel
theorem dX8_runCall_10 : decode cX8_runCall 10 = .ok (.istore 4, 2) := by decide +kernel
theorem dX8_runCall_12 : decode cX8_runCall 12 = .ok (.iload 4, 2) := by decide +kernel
theorem dX8_runCall_14 : decode cX8_runCall 14 = .ok (.aload_n 0, 1) := by decide +kernel
theorem dX8_runCall_15 : decode cX8_runCall 15 = .ok (.getfield 268, 3) := by decide +kernel
theorem dX8_runCall_18 : decode cX8_runCall 18 = .ok (.if_icmp .ge 32, 3) := by decide +kernel
theorem dX8_runCall_21 : decode cX8_runCall 21 = .ok (.iload_n 3, 1) := by decide +kernel
theorem dX8_runCall_22 : decode cX8_runCall 22 = .ok (.aload_n 0, 1) := by decide +kernel
theorem dX8_runCall_23 : decode cX8_runCall 23 = .ok (.aload_n 0, 1) := by decide +kernel
theorem dX8_runCall_24 : decode cX8_runCall 24 = .ok (.getfield 110, 3) := by decide +kernel
theorem dX8_runCall_27 : decode cX8_runCall 27 = .ok (.iload 4, 2) := by decide +kernel
theorem dX8_runCall_29 : decode cX8_runCall 29 = .ok (.iaload, 1) := by decide +kernel
theorem dX8_runCall_30 : decode cX8_runCall 30 = .ok (.iload_n 2, 1) := by decide +kernel
theorem dX8_runCall_31 : decode cX8_runCall 31 = .ok (.invokevirtual 166, 3) := by decide +kernel
theorem dX8_runCall_34 : decode cX8_runCall 34 = .ok (.ifCond .eq 7, 3) := by decide +kernel
theorem dX8_runCall_37 : decode cX8_runCall 37 = .ok (.iconst 1, 1) := by decide +kernel
theorem dX8_runCall_38 : decode cX8_runCall 38 = .ok (.goto 4, 3) := by decide +kernel
theorem dX8_runCall_41 : decode cX8_runCall 41 = .ok (.iconst 0, 1) := by decide +kernel
theorem dX8_runCall_42 : decode cX8_runCall 42 = .ok (.iadd, 1) := by decide +kernel
theorem dX8_runCall_43 : decode cX8_runCall 43 = .ok (.istore_n 3, 1) := by decide +kernel
theorem dX8_runCall_44 : decode cX8_runCall 44 = .ok (.iinc 4 1, 3) := by decide +kernel
theorem dX8_runCall_47 : decode cX8_runCall 47 = .ok (.goto (-35), 3) := by decide +kernel
theorem dX8_runCall_50 : decode cX8_runCall 50 = .ok (.iload_n 3, 1) := by decide +kernel
theorem dX8_runCall_51 : decode cX8_runCall 51 = .ok (.ifCond .ne 4, 3) := by decide +kernel
theorem dX8_runCall_54 : decode cX8_runCall 54 = .ok (.return_, 1) := by decide +kernel
theorem dX8_runCall_55 : decode cX8_runCall 55 = .ok (.aload_n 0, 1) := by decide +kernel
theorem dX8_runCall_56 : decode cX8_runCall 56 = .ok (.iload_n 3, 1) := by decide +kernel
theorem dX8_runCall_57 : decode cX8_runCall 57 = .ok (.invokevirtual 271, 3) := by decide +kernel
theorem dX8_runCall_60 : decode cX8_runCall 60 = .ok (.istore 4, 2) := by decide +kernel
theorem dX8_runCall_62 : decode cX8_runCall 62 = .ok (.iconst 0, 1) := by decide +kernel
theorem dX8_runCall_63 : decode cX8_runCall 63 = .ok (.istore 5, 2) := by decide +kernel
theorem dX8_runCall_65 : decode cX8_runCall 65 = .ok (.iload 5, 2) := by decide +kernel
theorem dX8_runCall_67 : decode cX8_runCall 67 = .ok (.aload_n 0, 1) := by decide +kernel
theorem dX8_runCall_68 : decode cX8_runCall 68 = .ok (.getfield 268, 3) := by decide +kernel
