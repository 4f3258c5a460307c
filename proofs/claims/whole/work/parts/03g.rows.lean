theorem dX12_expr_21 : decode cX12_expr 21 = .ok (.iload_n 3, 1) := by decide +kernel
theorem dX12_expr_22 : decode cX12_expr 22 = .ok (.ifCond .eq 317, 3) := by decide +kernel
theorem dX12_expr_25 : decode cX12_expr 25 = .ok (.iload_n 2, 1) := by decide +kernel
theorem dX12_expr_26 : decode cX12_expr 26 = .ok (.ifCond .eq 146, 3) := by decide +kernel
theorem dX12_expr_29 : decode cX12_expr 29 = .ok (.aload_n 0, 1) := by decide +kernel
theorem dX12_expr_30 : decode cX12_expr 30 = .ok (.bipush 40, 2) := by decide +kernel
theorem dX12_expr_32 : decode cX12_expr 32 = .ok (.invokevirtual 343, 3) := by decide +kernel
theorem dX12_expr_35 : decode cX12_expr 35 = .ok (.ifCond .eq 35, 3) := by decide +kernel
theorem dX12_expr_38 : decode cX12_expr 38 = .ok (.iload_n 1, 1) := by decide +kernel
theorem dX12_expr_39 : decode cX12_expr 39 = .ok (.bipush 6, 2) := by decide +kernel
theorem dX12_expr_41 : decode cX12_expr 41 = .ok (.if_icmp .ne 9, 3) := by decide +kernel
theorem dX12_expr_44 : decode cX12_expr 44 = .ok (.aload_n 0, 1) := by decide +kernel
theorem dX12_expr_45 : decode cX12_expr 45 = .ok (.iconst 2, 1) := by decide +kernel
theorem dX12_expr_46 : decode cX12_expr 46 = .ok (.invokevirtual 314, 3) := by decide +kernel
theorem dX12_expr_49 : decode cX12_expr 49 = .ok (.ireturn, 1) := by decide +kernel
theorem dX12_expr_50 : decode cX12_expr 50 = .ok (.aload_n 0, 1) := by decide +kernel
theorem dX12_expr_51 : decode cX12_expr 51 = .ok (.invokevirtual 317, 3) := by decide +kernel
theorem dX12_expr_54 : decode cX12_expr 54 = .ok (.ifCond .ne 5, 3) := by decide +kernel
theorem dX12_expr_57 : decode cX12_expr 57 = .ok (.iconst 0, 1) := by decide +kernel
theorem dX12_expr_58 : decode cX12_expr 58 = .ok (.ireturn, 1) := by decide +kernel
theorem dX12_expr_59 : decode cX12_expr 59 = .ok (.iinc 1 1, 3) := by decide +kernel
theorem dX12_expr_62 : decode cX12_expr 62 = .ok (.aload_n 0, 1) := by decide +kernel
theorem dX12_expr_63 : decode cX12_expr 63 = .ok (.iconst 0, 1) := by decide +kernel
theorem dX12_expr_64 : decode cX12_expr 64 = .ok (.invokevirtual 346, 3) := by decide +kernel
theorem dX12_expr_67 : decode cX12_expr 67 = .ok (.goto (-46), 3) := by decide +kernel
theorem dX12_expr_70 : decode cX12_expr 70 = .ok (.aload_n 0, 1) := by decide +kernel
theorem dX12_expr_71 : decode cX12_expr 71 = .ok (.getfield 13, 3) := by decide +kernel
theorem dX12_expr_74 : decode cX12_expr 74 = .ok (.aload_n 0, 1) := by decide +kernel
theorem dX12_expr_75 : decode cX12_expr 75 = .ok (.getfield 305, 3) := by decide +kernel
theorem dX12_expr_78 : decode cX12_expr 78 = .ok (.iaload, 1) := by decide +kernel
theorem dX12_expr_79 : decode cX12_expr 79 = .ok (.iconst 3, 1) := by decide +kernel
theorem dX12_expr_80 : decode cX12_expr 80 = .ok (.if_icmp .ne 18, 3) := by decide +kernel
theorem dX12_expr_83 : decode cX12_expr 83 = .ok (.aload_n 0, 1) := by decide +kernel
theorem dX12_expr_84 : decode cX12_expr 84 = .ok (.getfield 19, 3) := by decide +kernel
theorem dX12_expr_87 : decode cX12_expr 87 = .ok (.aload_n 0, 1) := by decide +kernel
theorem dX12_expr_88 : decode cX12_expr 88 = .ok (.getfield 305, 3) := by decide +kernel
theorem dX12_expr_91 : decode cX12_expr 91 = .ok (.iaload, 1) := by decide +kernel
theorem dX12_expr_92 : decode cX12_expr 92 = .ok (.invokestatic 349, 3) := by decide +kernel
theorem dX12_expr_95 : decode cX12_expr 95 = .ok (.goto 4, 3) := by decide +kernel
theorem dX12_expr_98 : decode cX12_expr 98 = .ok (.iconst (-1), 1) := by decide +kernel
theorem dX12_expr_99 : decode cX12_expr 99 = .ok (.istore 4, 2) := by decide +kernel
theorem dX12_expr_101 : decode cX12_expr 101 = .ok (.aload_n 0, 1) := by decide +kernel
theorem dX12_expr_102 : decode cX12_expr 102 = .ok (.getfield 13, 3) := by decide +kernel
theorem dX12_expr_105 : decode cX12_expr 105 = .ok (.aload_n 0, 1) := by decide +kernel
theorem dX12_expr_106 : decode cX12_expr 106 = .ok (.getfield 305, 3) := by decide +kernel
theorem dX12_expr_109 : decode cX12_expr 109 = .ok (.iaload, 1) := by decide +kernel
theorem dX12_expr_110 : decode cX12_expr 110 = .ok (.iconst 1, 1) := by decide +kernel
theorem dX12_expr_111 : decode cX12_expr 111 = .ok (.if_icmp .eq 14, 3) := by decide +kernel
theorem dX12_expr_114 : decode cX12_expr 114 = .ok (.iload 4, 2) := by decide +kernel
theorem dX12_expr_116 : decode cX12_expr 116 = .ok (.ifCond .ge 9, 3) := by decide +kernel
theorem dX12_expr_119 : decode cX12_expr 119 = .ok (.aload_n 0, 1) := by decide +kernel
theorem dX12_expr_120 : decode cX12_expr 120 = .ok (.iconst 1, 1) := by decide +kernel
theorem dX12_expr_121 : decode cX12_expr 121 = .ok (.invokevirtual 314, 3) := by decide +kernel
theorem dX12_expr_124 : decode cX12_expr 124 = .ok (.ireturn, 1) := by decide +kernel
theorem dX12_expr_125 : decode cX12_expr 125 = .ok (.aload_n 0, 1) := by decide +kernel
theorem dX12_expr_126 : decode cX12_expr 126 = .ok (.iload 4, 2) := by decide +kernel
theorem dX12_expr_128 : decode cX12_expr 128 = .ok (.ifCond .ge 7, 3) := by decide +kernel
theorem dX12_expr_131 : decode cX12_expr 131 = .ok (.iconst 0, 1) := by decide +kernel
theorem dX12_expr_132 : decode cX12_expr 132 = .ok (.goto 4, 3) := by decide +kernel
theorem dX12_expr_135 : decode cX12_expr 135 = .ok (.iconst 1, 1) := by decide +kernel
theorem dX12_expr_136 : decode cX12_expr 136 = .ok (.iload 4, 2) := by decide +kernel
theorem dX12_expr_138 : decode cX12_expr 138 = .ok (.ifCond .ge 15, 3) := by decide +kernel
theorem dX12_expr_141 : decode cX12_expr 141 = .ok (.aload_n 0, 1) := by decide +kernel
theorem dX12_expr_142 : decode cX12_expr 142 = .ok (.getfield 19, 3) := by decide +kernel
theorem dX12_expr_145 : decode cX12_expr 145 = .ok (.aload_n 0, 1) := by decide +kernel
theorem dX12_expr_146 : decode cX12_expr 146 = .ok (.getfield 305, 3) := by decide +kernel
theorem dX12_expr_149 : decode cX12_expr 149 = .ok (.iaload, 1) := by decide +kernel
theorem dX12_expr_150 : decode cX12_expr 150 = .ok (.goto 5, 3) := by decide +kernel
theorem dX12_expr_153 : decode cX12_expr 153 = .ok (.iload 4, 2) := by decide +kernel
theorem dX12_expr_155 : decode cX12_expr 155 = .ok (.invokevirtual 337, 3) := by decide +kernel
theorem dX12_expr_158 : decode cX12_expr 158 = .ok (.aload_n 0, 1) := by decide +kernel
theorem dX12_expr_159 : decode cX12_expr 159 = .ok (.invokevirtual 317, 3) := by decide +kernel
theorem dX12_expr_162 : decode cX12_expr 162 = .ok (.ifCond .ne 5, 3) := by decide +kernel
theorem dX12_expr_165 : decode cX12_expr 165 = .ok (.iconst 0, 1) := by decide +kernel
theorem dX12_expr_166 : decode cX12_expr 166 = .ok (.ireturn, 1) := by decide +kernel
theorem dX12_expr_167 : decode cX12_expr 167 = .ok (.iconst 0, 1) := by decide +kernel
theorem dX12_expr_168 : decode cX12_expr 168 = .ok (.istore_n 2, 1) := by decide +kernel
theorem dX12_expr_169 : decode cX12_expr 169 = .ok (.goto (-148), 3) := by decide +kernel
theorem dX12_expr_172 : decode cX12_expr 172 = .ok (.aload_n 0, 1) := by decide +kernel
theorem dX12_expr_173 : decode cX12_expr 173 = .ok (.bipush 42, 2) := by decide +kernel
theorem dX12_expr_175 : decode cX12_expr 175 = .ok (.invokevirtual 343, 3) := by decide +kernel
theorem dX12_expr_178 : decode cX12_expr 178 = .ok (.ifCond .ne 12, 3) := by decide +kernel
theorem dX12_expr_181 : decode cX12_expr 181 = .ok (.aload_n 0, 1) := by decide +kernel
theorem dX12_expr_182 : decode cX12_expr 182 = .ok (.bipush 47, 2) := by decide +kernel
theorem dX12_expr_184 : decode cX12_expr 184 = .ok (.invokevirtual 343, 3) := by decide +kernel
theorem dX12_expr_187 : decode cX12_expr 187 = .ok (.ifCond .eq 41, 3) := by decide +kernel
theorem dX12_expr_190 : decode cX12_expr 190 = .ok (.aload_n 0, 1) := by decide +kernel
theorem dX12_expr_191 : decode cX12_expr 191 = .ok (.iconst 2, 1) := by decide +kernel
theorem dX12_expr_192 : decode cX12_expr 192 = .ok (.iconst 0, 1) := by decide +kernel
theorem dX12_expr_193 : decode cX12_expr 193 = .ok (.invokevirtual 352, 3) := by decide +kernel
theorem dX12_expr_196 : decode cX12_expr 196 = .ok (.aload_n 0, 1) := by decide +kernel
theorem dX12_expr_197 : decode cX12_expr 197 = .ok (.aload_n 0, 1) := by decide +kernel
theorem dX12_expr_198 : decode cX12_expr 198 = .ok (.bipush 42, 2) := by decide +kernel
theorem dX12_expr_200 : decode cX12_expr 200 = .ok (.invokevirtual 343, 3) := by decide +kernel
theorem dX12_expr_203 : decode cX12_expr 203 = .ok (.ifCond .eq 7, 3) := by decide +kernel
theorem dX12_expr_206 : decode cX12_expr 206 = .ok (.iconst 4, 1) := by decide +kernel
theorem dX12_expr_207 : decode cX12_expr 207 = .ok (.goto 4, 3) := by decide +kernel
theorem dX12_expr_210 : decode cX12_expr 210 = .ok (.iconst 5, 1) := by decide +kernel
theorem dX12_expr_211 : decode cX12_expr 211 = .ok (.invokevirtual 346, 3) := by decide +kernel
theorem dX12_expr_214 : decode cX12_expr 214 = .ok (.aload_n 0, 1) := by decide +kernel
theorem dX12_expr_215 : decode cX12_expr 215 = .ok (.invokevirtual 317, 3) := by decide +kernel
theorem dX12_expr_218 : decode cX12_expr 218 = .ok (.ifCond .ne 5, 3) := by decide +kernel
theorem dX12_expr_221 : decode cX12_expr 221 = .ok (.iconst 0, 1) := by decide +kernel
theorem dX12_expr_222 : decode cX12_expr 222 = .ok (.ireturn, 1) := by decide +kernel
theorem dX12_expr_223 : decode cX12_expr 223 = .ok (.iconst 1, 1) := by decide +kernel
theorem dX12_expr_224 : decode cX12_expr 224 = .ok (.istore_n 2, 1) := by decide +kernel
theorem dX12_expr_225 : decode cX12_expr 225 = .ok (.goto (-204), 3) := by decide +kernel
theorem dX12_expr_228 : decode cX12_expr 228 = .ok (.aload_n 0, 1) := by decide +kernel
theorem dX12_expr_229 : decode cX12_expr 229 = .ok (.bipush 43, 2) := by decide +kernel
theorem dX12_expr_231 : decode cX12_expr 231 = .ok (.invokevirtual 343, 3) := by decide +kernel
theorem dX12_expr_234 : decode cX12_expr 234 = .ok (.ifCond .ne 12, 3) := by decide +kernel
theorem dX12_expr_237 : decode cX12_expr 237 = .ok (.aload_n 0, 1) := by decide +kernel
theorem dX12_expr_238 : decode cX12_expr 238 = .ok (.bipush 45, 2) := by decide +kernel
theorem dX12_expr_240 : decode cX12_expr 240 = .ok (.invokevirtual 343, 3) := by decide +kernel
theorem dX12_expr_243 : decode cX12_expr 243 = .ok (.ifCond .eq 41, 3) := by decide +kernel
theorem dX12_expr_246 : decode cX12_expr 246 = .ok (.aload_n 0, 1) := by decide +kernel
theorem dX12_expr_247 : decode cX12_expr 247 = .ok (.iconst 1, 1) := by decide +kernel
theorem dX12_expr_248 : decode cX12_expr 248 = .ok (.iconst 0, 1) := by decide +kernel
theorem dX12_expr_249 : decode cX12_expr 249 = .ok (.invokevirtual 352, 3) := by decide +kernel
theorem dX12_expr_252 : decode cX12_expr 252 = .ok (.aload_n 0, 1) := by decide +kernel
theorem dX12_expr_253 : decode cX12_expr 253 = .ok (.aload_n 0, 1) := by decide +kernel
theorem dX12_expr_254 : decode cX12_expr 254 = .ok (.bipush 43, 2) := by decide +kernel
theorem dX12_expr_256 : decode cX12_expr 256 = .ok (.invokevirtual 343, 3) := by decide +kernel
theorem dX12_expr_259 : decode cX12_expr 259 = .ok (.ifCond .eq 7, 3) := by decide +kernel
theorem dX12_expr_262 : decode cX12_expr 262 = .ok (.iconst 2, 1) := by decide +kernel
theorem dX12_expr_263 : decode cX12_expr 263 = .ok (.goto 4, 3) := by decide +kernel
theorem dX12_expr_266 : decode cX12_expr 266 = .ok (.iconst 3, 1) := by decide +kernel
theorem dX12_expr_267 : decode cX12_expr 267 = .ok (.invokevirtual 346, 3) := by decide +kernel
theorem dX12_expr_270 : decode cX12_expr 270 = .ok (.aload_n 0, 1) := by decide +kernel
theorem dX12_expr_271 : decode cX12_expr 271 = .ok (.invokevirtual 317, 3) := by decide +kernel
theorem dX12_expr_274 : decode cX12_expr 274 = .ok (.ifCond .ne 5, 3) := by decide +kernel
theorem dX12_expr_277 : decode cX12_expr 277 = .ok (.iconst 0, 1) := by decide +kernel
theorem dX12_expr_278 : decode cX12_expr 278 = .ok (.ireturn, 1) := by decide +kernel
theorem dX12_expr_279 : decode cX12_expr 279 = .ok (.iconst 1, 1) := by decide +kernel
theorem dX12_expr_280 : decode cX12_expr 280 = .ok (.istore_n 2, 1) := by decide +kernel
theorem dX12_expr_281 : decode cX12_expr 281 = .ok (.goto (-260), 3) := by decide +kernel
theorem dX12_expr_284 : decode cX12_expr 284 = .ok (.iload_n 1, 1) := by decide +kernel
theorem dX12_expr_285 : decode cX12_expr 285 = .ok (.ifCond .le 49, 3) := by decide +kernel
theorem dX12_expr_288 : decode cX12_expr 288 = .ok (.aload_n 0, 1) := by decide +kernel
theorem dX12_expr_289 : decode cX12_expr 289 = .ok (.bipush 41, 2) := by decide +kernel
theorem dX12_expr_291 : decode cX12_expr 291 = .ok (.invokevirtual 343, 3) := by decide +kernel
theorem dX12_expr_294 : decode cX12_expr 294 = .ok (.ifCond .ne 9, 3) := by decide +kernel
theorem dX12_expr_297 : decode cX12_expr 297 = .ok (.aload_n 0, 1) := by decide +kernel
theorem dX12_expr_298 : decode cX12_expr 298 = .ok (.iconst 1, 1) := by decide +kernel
theorem dX12_expr_299 : decode cX12_expr 299 = .ok (.invokevirtual 314, 3) := by decide +kernel
theorem dX12_expr_302 : decode cX12_expr 302 = .ok (.ireturn, 1) := by decide +kernel
theorem dX12_expr_303 : decode cX12_expr 303 = .ok (.aload_n 0, 1) := by decide +kernel
theorem dX12_expr_304 : decode cX12_expr 304 = .ok (.invokevirtual 317, 3) := by decide +kernel
theorem dX12_expr_307 : decode cX12_expr 307 = .ok (.ifCond .ne 5, 3) := by decide +kernel
theorem dX12_expr_310 : decode cX12_expr 310 = .ok (.iconst 0, 1) := by decide +kernel
theorem dX12_expr_311 : decode cX12_expr 311 = .ok (.ireturn, 1) := by decide +kernel
theorem dX12_expr_312 : decode cX12_expr 312 = .ok (.aload_n 0, 1) := by decide +kernel
theorem dX12_expr_313 : decode cX12_expr 313 = .ok (.iconst 1, 1) := by decide +kernel
theorem dX12_expr_314 : decode cX12_expr 314 = .ok (.iconst 0, 1) := by decide +kernel
theorem dX12_expr_315 : decode cX12_expr 315 = .ok (.invokevirtual 352, 3) := by decide +kernel
theorem dX12_expr_318 : decode cX12_expr 318 = .ok (.aload_n 0, 1) := by decide +kernel
theorem dX12_expr_319 : decode cX12_expr 319 = .ok (.dup, 1) := by decide +kernel
theorem dX12_expr_320 : decode cX12_expr 320 = .ok (.getfield 331, 3) := by decide +kernel
theorem dX12_expr_323 : decode cX12_expr 323 = .ok (.iconst 1, 1) := by decide +kernel
theorem dX12_expr_324 : decode cX12_expr 324 = .ok (.isub, 1) := by decide +kernel
theorem dX12_expr_325 : decode cX12_expr 325 = .ok (.putfield 331, 3) := by decide +kernel
theorem dX12_expr_328 : decode cX12_expr 328 = .ok (.iinc 1 (-1), 3) := by decide +kernel
theorem dX12_expr_331 : decode cX12_expr 331 = .ok (.goto (-310), 3) := by decide +kernel
theorem dX12_expr_334 : decode cX12_expr 334 = .ok (.iconst 0, 1) := by decide +kernel
theorem dX12_expr_335 : decode cX12_expr 335 = .ok (.istore_n 3, 1) := by decide +kernel
theorem dX12_expr_336 : decode cX12_expr 336 = .ok (.goto (-315), 3) := by decide +kernel
theorem dX12_expr_339 : decode cX12_expr 339 = .ok (.aload_n 0, 1) := by decide +kernel
theorem dX12_expr_340 : decode cX12_expr 340 = .ok (.iconst 1, 1) := by decide +kernel
theorem dX12_expr_341 : decode cX12_expr 341 = .ok (.iconst 0, 1) := by decide +kernel
theorem dX12_expr_342 : decode cX12_expr 342 = .ok (.invokevirtual 352, 3) := by decide +kernel
theorem dX12_expr_345 : decode cX12_expr 345 = .ok (.iconst 1, 1) := by decide +kernel
theorem dX12_expr_346 : decode cX12_expr 346 = .ok (.ireturn, 1) := by decide +kernel
set_option maxRecDepth 20000 in
theorem ggX12_cond_X12_isWord : GoodIn wsX12_cond wsX12_isWord := goodIn_r _ [17, 18, 9, 8, 60, 61, 62, 63, 64, 65, 66, 67, 68, 69, 70, 71, 72, 73, 74, 75, 76, 77, 78, 79, 80, 81, 82, 83, 84, 85, 86, 87, 88, 89, 90, 91, 92, 93, 94, 95, 96, 97, 98, 99, 100, 101, 102, 103, 104, 105, 106, 107, 108, 109, 110, 111, 112, 113, 114, 115, 116, 117, 118, 119, 120, 121, 122, 123, 124, 125, 126, 127, 128, 129, 130, 131, 132, 133, 134, 135, 136, 137, 138, 139, 140] (by decide +kernel) (by decide +kernel)
set_option maxRecDepth 20000 in
theorem gX12_cond_X12_isWord : GoodIn wsX12_cond (wsV RX12 358 RX12 yX12_isWord wsX12_isWord) := goodIn_app (goodIn_of _ (by decide +kernel)) ggX12_cond_X12_isWord
set_option maxRecDepth 20000 in
theorem ggX12_cond_X12_pass : GoodIn wsX12_cond wsX12_pass := goodIn_r _ [22, 9, 23, 24, 25, 16, 26, 27, 28, 29, 60, 61, 62, 63, 64, 65, 66, 67, 68, 69, 70, 71, 72, 73, 74, 75, 76, 77, 78, 79, 80, 81, 82, 83, 84, 85, 86, 87, 88, 89, 90, 91, 92, 93, 94, 95, 96, 97, 98, 99, 100, 101, 102, 103, 104, 105, 106, 107, 108, 109, 110, 111, 112, 113, 114, 115, 116, 117, 118, 119, 120, 121, 122, 123, 124, 125, 126, 127, 128, 129, 130, 131, 132, 133, 134, 135, 136, 137, 138, 139, 140] (by decide +kernel) (by decide +kernel)
set_option maxRecDepth 20000 in
theorem gX12_cond_X12_pass : GoodIn wsX12_cond (wsV RX12 317 RX12 yX12_pass wsX12_pass) := goodIn_app (goodIn_of _ (by decide +kernel)) ggX12_cond_X12_pass
set_option maxRecDepth 20000 in
theorem ggX12_cond_X12_expr : GoodIn wsX12_cond wsX12_expr := goodIn_r _ [33, 6, 4, 34, 18, 9, 8, 35, 36, 37, 16, 38, 23, 24, 25, 26, 27, 28, 29, 19, 20, 21, 22, 39, 40, 41, 42, 43, 44, 45, 46, 47, 48, 49, 50, 51, 52, 53, 54, 55, 56, 57, 58, 59, 60, 61, 62, 63, 64, 65, 66, 67, 68, 69, 70, 71, 72, 73, 74, 75, 76, 77, 78, 79, 80, 81, 82, 83, 84, 85, 86, 87, 88, 89, 90, 91, 92, 93, 94, 95, 96, 97, 98, 99, 100, 101, 102, 103, 104, 105, 106, 107, 108, 109, 110, 111, 112, 113, 114, 115, 116, 117, 118, 119, 120, 121, 122, 123, 124, 125, 126, 127, 128, 129, 130, 131, 132, 133, 134, 135, 136, 137, 138, 139, 140] (by decide +kernel) (by decide +kernel)
set_option maxRecDepth 20000 in
theorem gX12_cond_X12_expr : GoodIn wsX12_cond (wsV RX12 361 RX12 yX12_expr wsX12_expr) := goodIn_app (goodIn_of _ (by decide +kernel)) ggX12_cond_X12_expr
set_option maxRecDepth 20000 in
theorem ggX12_cond_X12_isSign : GoodIn wsX12_cond wsX12_isSign := goodIn_r _ [38, 18, 9, 8, 60, 61, 62, 63, 64, 65, 66, 67, 68, 69, 70, 71, 72, 73, 74, 75, 76, 77, 78, 79, 80, 81, 82, 83, 84, 85, 86, 87, 88, 89, 90, 91, 92, 93, 94, 95, 96, 97, 98, 99, 100, 101, 102, 103, 104, 105, 106, 107, 108, 109, 110, 111, 112, 113, 114, 115, 116, 117, 118, 119, 120, 121, 122, 123, 124, 125, 126, 127, 128, 129, 130, 131, 132, 133, 134, 135, 136, 137, 138, 139, 140] (by decide +kernel) (by decide +kernel)
set_option maxRecDepth 20000 in
theorem gX12_cond_X12_isSign : GoodIn wsX12_cond (wsV RX12 343 RX12 yX12_isSign wsX12_isSign) := goodIn_app (goodIn_of _ (by decide +kernel)) ggX12_cond_X12_isSign
set_option maxRecDepth 20000 in
theorem ggX12_cond_X12_wrong : GoodIn wsX12_cond wsX12_wrong := goodIn_r _ [26, 27, 28, 9, 29, 60, 61, 62, 63, 64, 65, 66, 67, 68, 69, 70, 71, 72, 73, 74, 75, 76, 77, 78, 79, 80, 81, 82, 83, 84, 85, 86, 87, 88, 89, 90, 91, 92, 93, 94, 95, 96, 97, 98, 99, 100, 101, 102, 103, 104, 105, 106, 107, 108, 109, 110, 111, 112, 113, 114, 115, 116, 117, 118, 119, 120, 121, 122, 123, 124, 125, 126, 127, 128, 129, 130, 131, 132, 133, 134, 135, 136, 137, 138, 139, 140] (by decide +kernel) (by decide +kernel)
set_option maxRecDepth 20000 in
theorem gX12_cond_X12_wrong : GoodIn wsX12_cond (wsV RX12 314 RX12 yX12_wrong wsX12_wrong) := goodIn_app (goodIn_of _ (by decide +kernel)) ggX12_cond_X12_wrong
theorem dX12_cond_0 : decode cX12_cond 0 = .ok (.aload_n 0, 1) := by decide +kernel
theorem dX12_cond_1 : decode cX12_cond 1 = .ok (.aload_n 0, 1) := by decide +kernel
theorem dX12_cond_2 : decode cX12_cond 2 = .ok (.getfield 106, 3) := by decide +kernel
theorem dX12_cond_5 : decode cX12_cond 5 = .ok (.iconst 1, 1) := by decide +kernel
theorem dX12_cond_6 : decode cX12_cond 6 = .ok (.iaload, 1) := by decide +kernel
theorem dX12_cond_7 : decode cX12_cond 7 = .ok (.putfield 355, 3) := by decide +kernel
theorem dX12_cond_10 : decode cX12_cond 10 = .ok (.iconst 0, 1) := by decide +kernel
theorem dX12_cond_11 : decode cX12_cond 11 = .ok (.istore_n 1, 1) := by decide +kernel
theorem dX12_cond_12 : decode cX12_cond 12 = .ok (.iconst 1, 1) := by decide +kernel
theorem dX12_cond_13 : decode cX12_cond 13 = .ok (.istore_n 2, 1) := by decide +kernel
theorem dX12_cond_14 : decode cX12_cond 14 = .ok (.iload_n 2, 1) := by decide +kernel
theorem dX12_cond_15 : decode cX12_cond 15 = .ok (.ifCond .eq 258, 3) := by decide +kernel
theorem dX12_cond_18 : decode cX12_cond 18 = .ok (.sipush 200, 3) := by decide +kernel
theorem dX12_cond_21 : decode cX12_cond 21 = .ok (.aload_n 0, 1) := by decide +kernel
theorem dX12_cond_22 : decode cX12_cond 22 = .ok (.getfield 106, 3) := by decide +kernel
theorem dX12_cond_25 : decode cX12_cond 25 = .ok (.iconst 1, 1) := by decide +kernel
theorem dX12_cond_26 : decode cX12_cond 26 = .ok (.iaload, 1) := by decide +kernel
theorem dX12_cond_27 : decode cX12_cond 27 = .ok (.iadd, 1) := by decide +kernel
theorem dX12_cond_28 : decode cX12_cond 28 = .ok (.istore_n 3, 1) := by decide +kernel
theorem dX12_cond_29 : decode cX12_cond 29 = .ok (.iconst 0, 1) := by decide +kernel
theorem dX12_cond_30 : decode cX12_cond 30 = .ok (.istore 4, 2) := by decide +kernel
theorem dX12_cond_32 : decode cX12_cond 32 = .ok (.aload_n 0, 1) := by decide +kernel
theorem dX12_cond_33 : decode cX12_cond 33 = .ok (.bipush 10, 2) := by decide +kernel
theorem dX12_cond_35 : decode cX12_cond 35 = .ok (.invokevirtual 358, 3) := by decide +kernel
theorem dX12_cond_38 : decode cX12_cond 38 = .ok (.ifCond .eq 27, 3) := by decide +kernel
theorem dX12_cond_41 : decode cX12_cond 41 = .ok (.aload_n 0, 1) := by decide +kernel
theorem dX12_cond_42 : decode cX12_cond 42 = .ok (.invokevirtual 317, 3) := by decide +kernel
theorem dX12_cond_45 : decode cX12_cond 45 = .ok (.ifCond .ne 5, 3) := by decide +kernel
theorem dX12_cond_48 : decode cX12_cond 48 = .ok (.iconst 0, 1) := by decide +kernel
theorem dX12_cond_49 : decode cX12_cond 49 = .ok (.ireturn, 1) := by decide +kernel
theorem dX12_cond_50 : decode cX12_cond 50 = .ok (.iload 4, 2) := by decide +kernel
theorem dX12_cond_52 : decode cX12_cond 52 = .ok (.ifCond .ne 7, 3) := by decide +kernel
theorem dX12_cond_55 : decode cX12_cond 55 = .ok (.iconst 1, 1) := by decide +kernel
theorem dX12_cond_56 : decode cX12_cond 56 = .ok (.goto 4, 3) := by decide +kernel
theorem dX12_cond_59 : decode cX12_cond 59 = .ok (.iconst 0, 1) := by decide +kernel
theorem dX12_cond_60 : decode cX12_cond 60 = .ok (.istore 4, 2) := by decide +kernel
theorem dX12_cond_62 : decode cX12_cond 62 = .ok (.goto (-30), 3) := by decide +kernel
theorem dX12_cond_65 : decode cX12_cond 65 = .ok (.aload_n 0, 1) := by decide +kernel
theorem dX12_cond_66 : decode cX12_cond 66 = .ok (.invokevirtual 361, 3) := by decide +kernel
theorem dX12_cond_69 : decode cX12_cond 69 = .ok (.ifCond .ne 5, 3) := by decide +kernel
theorem dX12_cond_72 : decode cX12_cond 72 = .ok (.iconst 0, 1) := by decide +kernel
theorem dX12_cond_73 : decode cX12_cond 73 = .ok (.ireturn, 1) := by decide +kernel
theorem dX12_cond_74 : decode cX12_cond 74 = .ok (.aload_n 0, 1) := by decide +kernel
theorem dX12_cond_75 : decode cX12_cond 75 = .ok (.getfield 115, 3) := by decide +kernel
theorem dX12_cond_78 : decode cX12_cond 78 = .ok (.iload_n 3, 1) := by decide +kernel
theorem dX12_cond_79 : decode cX12_cond 79 = .ok (.aload_n 0, 1) := by decide +kernel
theorem dX12_cond_80 : decode cX12_cond 80 = .ok (.getfield 340, 3) := by decide +kernel
theorem dX12_cond_83 : decode cX12_cond 83 = .ok (.iastore, 1) := by decide +kernel
theorem dX12_cond_84 : decode cX12_cond 84 = .ok (.aload_n 0, 1) := by decide +kernel
theorem dX12_cond_85 : decode cX12_cond 85 = .ok (.getfield 118, 3) := by decide +kernel
theorem dX12_cond_88 : decode cX12_cond 88 = .ok (.iload_n 3, 1) := by decide +kernel
theorem dX12_cond_89 : decode cX12_cond 89 = .ok (.aload_n 0, 1) := by decide +kernel
theorem dX12_cond_90 : decode cX12_cond 90 = .ok (.getfield 97, 3) := by decide +kernel
theorem dX12_cond_93 : decode cX12_cond 93 = .ok (.iconst 1, 1) := by decide +kernel
theorem dX12_cond_94 : decode cX12_cond 94 = .ok (.iaload, 1) := by decide +kernel
theorem dX12_cond_95 : decode cX12_cond 95 = .ok (.iastore, 1) := by decide +kernel
theorem dX12_cond_96 : decode cX12_cond 96 = .ok (.aload_n 0, 1) := by decide +kernel
theorem dX12_cond_97 : decode cX12_cond 97 = .ok (.sipush 300, 3) := by decide +kernel
theorem dX12_cond_100 : decode cX12_cond 100 = .ok (.invokevirtual 343, 3) := by decide +kernel
theorem dX12_cond_103 : decode cX12_cond 103 = .ok (.ifCond .ne 32, 3) := by decide +kernel
theorem dX12_cond_106 : decode cX12_cond 106 = .ok (.aload_n 0, 1) := by decide +kernel
theorem dX12_cond_107 : decode cX12_cond 107 = .ok (.sipush 301, 3) := by decide +kernel
theorem dX12_cond_110 : decode cX12_cond 110 = .ok (.invokevirtual 343, 3) := by decide +kernel
theorem dX12_cond_113 : decode cX12_cond 113 = .ok (.ifCond .ne 22, 3) := by decide +kernel
theorem dX12_cond_116 : decode cX12_cond 116 = .ok (.aload_n 0, 1) := by decide +kernel
theorem dX12_cond_117 : decode cX12_cond 117 = .ok (.sipush 302, 3) := by decide +kernel
theorem dX12_cond_120 : decode cX12_cond 120 = .ok (.invokevirtual 343, 3) := by decide +kernel
theorem dX12_cond_123 : decode cX12_cond 123 = .ok (.ifCond .ne 12, 3) := by decide +kernel
theorem dX12_cond_126 : decode cX12_cond 126 = .ok (.aload_n 0, 1) := by decide +kernel
theorem dX12_cond_127 : decode cX12_cond 127 = .ok (.bipush 60, 2) := by decide +kernel
theorem dX12_cond_129 : decode cX12_cond 129 = .ok (.invokevirtual 343, 3) := by decide +kernel
theorem dX12_cond_132 : decode cX12_cond 132 = .ok (.ifCond .eq 7, 3) := by decide +kernel
theorem dX12_cond_135 : decode cX12_cond 135 = .ok (.iconst 1, 1) := by decide +kernel
theorem dX12_cond_136 : decode cX12_cond 136 = .ok (.goto 4, 3) := by decide +kernel
theorem dX12_cond_139 : decode cX12_cond 139 = .ok (.iconst 0, 1) := by decide +kernel
theorem dX12_cond_140 : decode cX12_cond 140 = .ok (.istore 5, 2) := by decide +kernel
theorem dX12_cond_142 : decode cX12_cond 142 = .ok (.iload 5, 2) := by decide +kernel
theorem dX12_cond_144 : decode cX12_cond 144 = .ok (.ifCond .ne 9, 3) := by decide +kernel
theorem dX12_cond_147 : decode cX12_cond 147 = .ok (.aload_n 0, 1) := by decide +kernel
theorem dX12_cond_148 : decode cX12_cond 148 = .ok (.iconst 1, 1) := by decide +kernel
theorem dX12_cond_149 : decode cX12_cond 149 = .ok (.invokevirtual 314, 3) := by decide +kernel
theorem dX12_cond_152 : decode cX12_cond 152 = .ok (.ireturn, 1) := by decide +kernel
theorem dX12_cond_153 : decode cX12_cond 153 = .ok (.aload_n 0, 1) := by decide +kernel
theorem dX12_cond_154 : decode cX12_cond 154 = .ok (.getfield 112, 3) := by decide +kernel
theorem dX12_cond_157 : decode cX12_cond 157 = .ok (.iload_n 3, 1) := by decide +kernel
theorem dX12_cond_158 : decode cX12_cond 158 = .ok (.aload_n 0, 1) := by decide +kernel
theorem dX12_cond_159 : decode cX12_cond 159 = .ok (.getfield 19, 3) := by decide +kernel
theorem dX12_cond_162 : decode cX12_cond 162 = .ok (.aload_n 0, 1) := by decide +kernel
theorem dX12_cond_163 : decode cX12_cond 163 = .ok (.getfield 305, 3) := by decide +kernel
theorem dX12_cond_166 : decode cX12_cond 166 = .ok (.iaload, 1) := by decide +kernel
theorem dX12_cond_167 : decode cX12_cond 167 = .ok (.iastore, 1) := by decide +kernel
theorem dX12_cond_168 : decode cX12_cond 168 = .ok (.aload_n 0, 1) := by decide +kernel
theorem dX12_cond_169 : decode cX12_cond 169 = .ok (.invokevirtual 317, 3) := by decide +kernel
theorem dX12_cond_172 : decode cX12_cond 172 = .ok (.ifCond .eq 10, 3) := by decide +kernel
theorem dX12_cond_175 : decode cX12_cond 175 = .ok (.aload_n 0, 1) := by decide +kernel
theorem dX12_cond_176 : decode cX12_cond 176 = .ok (.invokevirtual 361, 3) := by decide +kernel
theorem dX12_cond_179 : decode cX12_cond 179 = .ok (.ifCond .ne 5, 3) := by decide +kernel
theorem dX12_cond_182 : decode cX12_cond 182 = .ok (.iconst 0, 1) := by decide +kernel
theorem dX12_cond_183 : decode cX12_cond 183 = .ok (.ireturn, 1) := by decide +kernel
theorem dX12_cond_184 : decode cX12_cond 184 = .ok (.aload_n 0, 1) := by decide +kernel
theorem dX12_cond_185 : decode cX12_cond 185 = .ok (.getfield 121, 3) := by decide +kernel
theorem dX12_cond_188 : decode cX12_cond 188 = .ok (.iload_n 3, 1) := by decide +kernel
theorem dX12_cond_189 : decode cX12_cond 189 = .ok (.aload_n 0, 1) := by decide +kernel
theorem dX12_cond_190 : decode cX12_cond 190 = .ok (.getfield 97, 3) := by decide +kernel
theorem dX12_cond_193 : decode cX12_cond 193 = .ok (.iconst 1, 1) := by decide +kernel
theorem dX12_cond_194 : decode cX12_cond 194 = .ok (.iaload, 1) := by decide +kernel
theorem dX12_cond_195 : decode cX12_cond 195 = .ok (.iastore, 1) := by decide +kernel
theorem dX12_cond_196 : decode cX12_cond 196 = .ok (.aload_n 0, 1) := by decide +kernel
theorem dX12_cond_197 : decode cX12_cond 197 = .ok (.getfield 109, 3) := by decide +kernel
theorem dX12_cond_200 : decode cX12_cond 200 = .ok (.iload_n 3, 1) := by decide +kernel
theorem dX12_cond_201 : decode cX12_cond 201 = .ok (.iload 4, 2) := by decide +kernel
theorem dX12_cond_203 : decode cX12_cond 203 = .ok (.bastore, 1) := by decide +kernel
theorem dX12_cond_204 : decode cX12_cond 204 = .ok (.aload_n 0, 1) := by decide +kernel
theorem dX12_cond_205 : decode cX12_cond 205 = .ok (.getfield 124, 3) := by decide +kernel
theorem dX12_cond_208 : decode cX12_cond 208 = .ok (.iload_n 3, 1) := by decide +kernel
theorem dX12_cond_209 : decode cX12_cond 209 = .ok (.iload_n 1, 1) := by decide +kernel
theorem dX12_cond_210 : decode cX12_cond 210 = .ok (.iastore, 1) := by decide +kernel
theorem dX12_cond_211 : decode cX12_cond 211 = .ok (.aload_n 0, 1) := by decide +kernel
theorem dX12_cond_212 : decode cX12_cond 212 = .ok (.getfield 106, 3) := by decide +kernel
theorem dX12_cond_215 : decode cX12_cond 215 = .ok (.iconst 1, 1) := by decide +kernel
theorem dX12_cond_216 : decode cX12_cond 216 = .ok (.dup2, 1) := by decide +kernel
theorem dX12_cond_217 : decode cX12_cond 217 = .ok (.iaload, 1) := by decide +kernel
theorem dX12_cond_218 : decode cX12_cond 218 = .ok (.iconst 1, 1) := by decide +kernel
theorem dX12_cond_219 : decode cX12_cond 219 = .ok (.iadd, 1) := by decide +kernel
theorem dX12_cond_220 : decode cX12_cond 220 = .ok (.iastore, 1) := by decide +kernel
theorem dX12_cond_221 : decode cX12_cond 221 = .ok (.aload_n 0, 1) := by decide +kernel
theorem dX12_cond_222 : decode cX12_cond 222 = .ok (.bipush 11, 2) := by decide +kernel
theorem dX12_cond_224 : decode cX12_cond 224 = .ok (.invokevirtual 358, 3) := by decide +kernel
theorem dX12_cond_227 : decode cX12_cond 227 = .ok (.ifCond .ne 12, 3) := by decide +kernel
theorem dX12_cond_230 : decode cX12_cond 230 = .ok (.aload_n 0, 1) := by decide +kernel
theorem dX12_cond_231 : decode cX12_cond 231 = .ok (.bipush 12, 2) := by decide +kernel
theorem dX12_cond_233 : decode cX12_cond 233 = .ok (.invokevirtual 358, 3) := by decide +kernel
theorem dX12_cond_236 : decode cX12_cond 236 = .ok (.ifCond .eq 7, 3) := by decide +kernel
theorem dX12_cond_239 : decode cX12_cond 239 = .ok (.iconst 1, 1) := by decide +kernel
theorem dX12_cond_240 : decode cX12_cond 240 = .ok (.goto 4, 3) := by decide +kernel
theorem dX12_cond_243 : decode cX12_cond 243 = .ok (.iconst 0, 1) := by decide +kernel
theorem dX12_cond_244 : decode cX12_cond 244 = .ok (.istore_n 2, 1) := by decide +kernel
theorem dX12_cond_245 : decode cX12_cond 245 = .ok (.aload_n 0, 1) := by decide +kernel
theorem dX12_cond_246 : decode cX12_cond 246 = .ok (.bipush 12, 2) := by decide +kernel
theorem dX12_cond_248 : decode cX12_cond 248 = .ok (.invokevirtual 358, 3) := by decide +kernel
theorem dX12_cond_251 : decode cX12_cond 251 = .ok (.ifCond .eq 6, 3) := by decide +kernel
theorem dX12_cond_254 : decode cX12_cond 254 = .ok (.iinc 1 1, 3) := by decide +kernel
theorem dX12_cond_257 : decode cX12_cond 257 = .ok (.iload_n 2, 1) := by decide +kernel
theorem dX12_cond_258 : decode cX12_cond 258 = .ok (.ifCond .eq 12, 3) := by decide +kernel
theorem dX12_cond_261 : decode cX12_cond 261 = .ok (.aload_n 0, 1) := by decide +kernel
theorem dX12_cond_262 : decode cX12_cond 262 = .ok (.invokevirtual 317, 3) := by decide +kernel
theorem dX12_cond_265 : decode cX12_cond 265 = .ok (.ifCond .ne 5, 3) := by decide +kernel
theorem dX12_cond_268 : decode cX12_cond 268 = .ok (.iconst 0, 1) := by decide +kernel
theorem dX12_cond_269 : decode cX12_cond 269 = .ok (.ireturn, 1) := by decide +kernel
theorem dX12_cond_270 : decode cX12_cond 270 = .ok (.goto (-256), 3) := by decide +kernel
theorem dX12_cond_273 : decode cX12_cond 273 = .ok (.iconst 1, 1) := by decide +kernel
theorem dX12_cond_274 : decode cX12_cond 274 = .ok (.ireturn, 1) := by decide +kernel
theorem dX12_begin_0 : decode cX12_begin 0 = .ok (.aload_n 0, 1) := by decide +kernel
theorem dX12_begin_1 : decode cX12_begin 1 = .ok (.getfield 34, 3) := by decide +kernel
theorem dX12_begin_4 : decode cX12_begin 4 = .ok (.iload_n 1, 1) := by decide +kernel
theorem dX12_begin_5 : decode cX12_begin 5 = .ok (.iconst 2, 1) := by decide +kernel
theorem dX12_begin_6 : decode cX12_begin 6 = .ok (.iastore, 1) := by decide +kernel
theorem dX12_begin_7 : decode cX12_begin 7 = .ok (.aload_n 0, 1) := by decide +kernel
theorem dX12_begin_8 : decode cX12_begin 8 = .ok (.getfield 37, 3) := by decide +kernel
theorem dX12_begin_11 : decode cX12_begin 11 = .ok (.iload_n 1, 1) := by decide +kernel
theorem dX12_begin_12 : decode cX12_begin 12 = .ok (.iconst 0, 1) := by decide +kernel
theorem dX12_begin_13 : decode cX12_begin 13 = .ok (.iastore, 1) := by decide +kernel
theorem dX12_begin_14 : decode cX12_begin 14 = .ok (.aload_n 0, 1) := by decide +kernel
theorem dX12_begin_15 : decode cX12_begin 15 = .ok (.getfield 55, 3) := by decide +kernel
theorem dX12_begin_18 : decode cX12_begin 18 = .ok (.iload_n 1, 1) := by decide +kernel
theorem dX12_begin_19 : decode cX12_begin 19 = .ok (.iconst 0, 1) := by decide +kernel
theorem dX12_begin_20 : decode cX12_begin 20 = .ok (.iastore, 1) := by decide +kernel
theorem dX12_begin_21 : decode cX12_begin 21 = .ok (.aload_n 0, 1) := by decide +kernel
theorem dX12_begin_22 : decode cX12_begin 22 = .ok (.getfield 64, 3) := by decide +kernel
theorem dX12_begin_25 : decode cX12_begin 25 = .ok (.iload_n 1, 1) := by decide +kernel
theorem dX12_begin_26 : decode cX12_begin 26 = .ok (.iconst 0, 1) := by decide +kernel
theorem dX12_begin_27 : decode cX12_begin 27 = .ok (.iastore, 1) := by decide +kernel
theorem dX12_begin_28 : decode cX12_begin 28 = .ok (.aload_n 0, 1) := by decide +kernel
theorem dX12_begin_29 : decode cX12_begin 29 = .ok (.getfield 76, 3) := by decide +kernel
theorem dX12_begin_32 : decode cX12_begin 32 = .ok (.iload_n 1, 1) := by decide +kernel
theorem dX12_begin_33 : decode cX12_begin 33 = .ok (.iconst 0, 1) := by decide +kernel
theorem dX12_begin_34 : decode cX12_begin 34 = .ok (.iastore, 1) := by decide +kernel
theorem dX12_begin_35 : decode cX12_begin 35 = .ok (.aload_n 0, 1) := by decide +kernel
theorem dX12_begin_36 : decode cX12_begin 36 = .ok (.getfield 88, 3) := by decide +kernel
theorem dX12_begin_39 : decode cX12_begin 39 = .ok (.iload_n 1, 1) := by decide +kernel
theorem dX12_begin_40 : decode cX12_begin 40 = .ok (.iconst 0, 1) := by decide +kernel
theorem dX12_begin_41 : decode cX12_begin 41 = .ok (.iastore, 1) := by decide +kernel
theorem dX12_begin_42 : decode cX12_begin 42 = .ok (.aload_n 0, 1) := by decide +kernel
theorem dX12_begin_43 : decode cX12_begin 43 = .ok (.getfield 97, 3) := by decide +kernel
theorem dX12_begin_46 : decode cX12_begin 46 = .ok (.iload_n 1, 1) := by decide +kernel
theorem dX12_begin_47 : decode cX12_begin 47 = .ok (.iconst 0, 1) := by decide +kernel
theorem dX12_begin_48 : decode cX12_begin 48 = .ok (.iastore, 1) := by decide +kernel
theorem dX12_begin_49 : decode cX12_begin 49 = .ok (.aload_n 0, 1) := by decide +kernel
theorem dX12_begin_50 : decode cX12_begin 50 = .ok (.getfield 106, 3) := by decide +kernel
theorem dX12_begin_53 : decode cX12_begin 53 = .ok (.iload_n 1, 1) := by decide +kernel
theorem dX12_begin_54 : decode cX12_begin 54 = .ok (.iconst 0, 1) := by decide +kernel
theorem dX12_begin_55 : decode cX12_begin 55 = .ok (.iastore, 1) := by decide +kernel
theorem dX12_begin_56 : decode cX12_begin 56 = .ok (.aload_n 0, 1) := by decide +kernel
theorem dX12_begin_57 : decode cX12_begin 57 = .ok (.getfield 127, 3) := by decide +kernel
theorem dX12_begin_60 : decode cX12_begin 60 = .ok (.iload_n 1, 1) := by decide +kernel
theorem dX12_begin_61 : decode cX12_begin 61 = .ok (.iconst 0, 1) := by decide +kernel
theorem dX12_begin_62 : decode cX12_begin 62 = .ok (.iastore, 1) := by decide +kernel
theorem dX12_begin_63 : decode cX12_begin 63 = .ok (.aload_n 0, 1) := by decide +kernel
theorem dX12_begin_64 : decode cX12_begin 64 = .ok (.iconst 0, 1) := by decide +kernel
theorem dX12_begin_65 : decode cX12_begin 65 = .ok (.putfield 364, 3) := by decide +kernel
theorem dX12_begin_68 : decode cX12_begin 68 = .ok (.return_, 1) := by decide +kernel
theorem dX12_copy_0 : decode cX12_copy 0 = .ok (.aload_n 0, 1) := by decide +kernel
theorem dX12_copy_1 : decode cX12_copy 1 = .ok (.getfield 34, 3) := by decide +kernel
theorem dX12_copy_4 : decode cX12_copy 4 = .ok (.iload_n 2, 1) := by decide +kernel
theorem dX12_copy_5 : decode cX12_copy 5 = .ok (.aload_n 0, 1) := by decide +kernel
theorem dX12_copy_6 : decode cX12_copy 6 = .ok (.getfield 34, 3) := by decide +kernel
theorem dX12_copy_9 : decode cX12_copy 9 = .ok (.iload_n 1, 1) := by decide +kernel
theorem dX12_copy_10 : decode cX12_copy 10 = .ok (.iaload, 1) := by decide +kernel
theorem dX12_copy_11 : decode cX12_copy 11 = .ok (.iastore, 1) := by decide +kernel
theorem dX12_copy_12 : decode cX12_copy 12 = .ok (.aload_n 0, 1) := by decide +kernel
theorem dX12_copy_13 : decode cX12_copy 13 = .ok (.getfield 37, 3) := by decide +kernel
theorem dX12_copy_16 : decode cX12_copy 16 = .ok (.iload_n 2, 1) := by decide +kernel
theorem dX12_copy_17 : decode cX12_copy 17 = .ok (.aload_n 0, 1) := by decide +kernel
theorem dX12_copy_18 : decode cX12_copy 18 = .ok (.getfield 37, 3) := by decide +kernel
theorem dX12_copy_21 : decode cX12_copy 21 = .ok (.iload_n 1, 1) := by decide +kernel
theorem dX12_copy_22 : decode cX12_copy 22 = .ok (.iaload, 1) := by decide +kernel
theorem dX12_copy_23 : decode cX12_copy 23 = .ok (.iastore, 1) := by decide +kernel
theorem dX12_copy_24 : decode cX12_copy 24 = .ok (.aload_n 0, 1) := by decide +kernel
theorem dX12_copy_25 : decode cX12_copy 25 = .ok (.getfield 55, 3) := by decide +kernel
theorem dX12_copy_28 : decode cX12_copy 28 = .ok (.iload_n 2, 1) := by decide +kernel
theorem dX12_copy_29 : decode cX12_copy 29 = .ok (.aload_n 0, 1) := by decide +kernel
theorem dX12_copy_30 : decode cX12_copy 30 = .ok (.getfield 55, 3) := by decide +kernel
theorem dX12_copy_33 : decode cX12_copy 33 = .ok (.iload_n 1, 1) := by decide +kernel
theorem dX12_copy_34 : decode cX12_copy 34 = .ok (.iaload, 1) := by decide +kernel
theorem dX12_copy_35 : decode cX12_copy 35 = .ok (.iastore, 1) := by decide +kernel
theorem dX12_copy_36 : decode cX12_copy 36 = .ok (.aload_n 0, 1) := by decide +kernel
theorem dX12_copy_37 : decode cX12_copy 37 = .ok (.getfield 64, 3) := by decide +kernel
theorem dX12_copy_40 : decode cX12_copy 40 = .ok (.iload_n 2, 1) := by decide +kernel
theorem dX12_copy_41 : decode cX12_copy 41 = .ok (.aload_n 0, 1) := by decide +kernel
theorem dX12_copy_42 : decode cX12_copy 42 = .ok (.getfield 64, 3) := by decide +kernel
theorem dX12_copy_45 : decode cX12_copy 45 = .ok (.iload_n 1, 1) := by decide +kernel
theorem dX12_copy_46 : decode cX12_copy 46 = .ok (.iaload, 1) := by decide +kernel
theorem dX12_copy_47 : decode cX12_copy 47 = .ok (.iastore, 1) := by decide +kernel
theorem dX12_copy_48 : decode cX12_copy 48 = .ok (.aload_n 0, 1) := by decide +kernel
theorem dX12_copy_49 : decode cX12_copy 49 = .ok (.getfield 76, 3) := by decide +kernel
theorem dX12_copy_52 : decode cX12_copy 52 = .ok (.iload_n 2, 1) := by decide +kernel
theorem dX12_copy_53 : decode cX12_copy 53 = .ok (.aload_n 0, 1) := by decide +kernel
theorem dX12_copy_54 : decode cX12_copy 54 = .ok (.getfield 76, 3) := by decide +kernel
theorem dX12_copy_57 : decode cX12_copy 57 = .ok (.iload_n 1, 1) := by decide +kernel
theorem dX12_copy_58 : decode cX12_copy 58 = .ok (.iaload, 1) := by decide +kernel
theorem dX12_copy_59 : decode cX12_copy 59 = .ok (.iastore, 1) := by decide +kernel
theorem dX12_copy_60 : decode cX12_copy 60 = .ok (.aload_n 0, 1) := by decide +kernel
theorem dX12_copy_61 : decode cX12_copy 61 = .ok (.getfield 88, 3) := by decide +kernel
theorem dX12_copy_64 : decode cX12_copy 64 = .ok (.iload_n 2, 1) := by decide +kernel
theorem dX12_copy_65 : decode cX12_copy 65 = .ok (.aload_n 0, 1) := by decide +kernel
theorem dX12_copy_66 : decode cX12_copy 66 = .ok (.getfield 88, 3) := by decide +kernel
theorem dX12_copy_69 : decode cX12_copy 69 = .ok (.iload_n 1, 1) := by decide +kernel
theorem dX12_copy_70 : decode cX12_copy 70 = .ok (.iaload, 1) := by decide +kernel
theorem dX12_copy_71 : decode cX12_copy 71 = .ok (.iastore, 1) := by decide +kernel
theorem dX12_copy_72 : decode cX12_copy 72 = .ok (.aload_n 0, 1) := by decide +kernel
theorem dX12_copy_73 : decode cX12_copy 73 = .ok (.getfield 97, 3) := by decide +kernel
theorem dX12_copy_76 : decode cX12_copy 76 = .ok (.iload_n 2, 1) := by decide +kernel
theorem dX12_copy_77 : decode cX12_copy 77 = .ok (.aload_n 0, 1) := by decide +kernel
theorem dX12_copy_78 : decode cX12_copy 78 = .ok (.getfield 97, 3) := by decide +kernel
theorem dX12_copy_81 : decode cX12_copy 81 = .ok (.iload_n 1, 1) := by decide +kernel
theorem dX12_copy_82 : decode cX12_copy 82 = .ok (.iaload, 1) := by decide +kernel
theorem dX12_copy_83 : decode cX12_copy 83 = .ok (.iastore, 1) := by decide +kernel
theorem dX12_copy_84 : decode cX12_copy 84 = .ok (.aload_n 0, 1) := by decide +kernel
theorem dX12_copy_85 : decode cX12_copy 85 = .ok (.getfield 106, 3) := by decide +kernel
theorem dX12_copy_88 : decode cX12_copy 88 = .ok (.iload_n 2, 1) := by decide +kernel
theorem dX12_copy_89 : decode cX12_copy 89 = .ok (.aload_n 0, 1) := by decide +kernel
theorem dX12_copy_90 : decode cX12_copy 90 = .ok (.getfield 106, 3) := by decide +kernel
theorem dX12_copy_93 : decode cX12_copy 93 = .ok (.iload_n 1, 1) := by decide +kernel
theorem dX12_copy_94 : decode cX12_copy 94 = .ok (.iaload, 1) := by decide +kernel
theorem dX12_copy_95 : decode cX12_copy 95 = .ok (.iastore, 1) := by decide +kernel
theorem dX12_copy_96 : decode cX12_copy 96 = .ok (.aload_n 0, 1) := by decide +kernel
theorem dX12_copy_97 : decode cX12_copy 97 = .ok (.getfield 127, 3) := by decide +kernel
theorem dX12_copy_100 : decode cX12_copy 100 = .ok (.iload_n 2, 1) := by decide +kernel
theorem dX12_copy_101 : decode cX12_copy 101 = .ok (.aload_n 0, 1) := by decide +kernel
theorem dX12_copy_102 : decode cX12_copy 102 = .ok (.getfield 127, 3) := by decide +kernel
theorem dX12_copy_105 : decode cX12_copy 105 = .ok (.iload_n 1, 1) := by decide +kernel
theorem dX12_copy_106 : decode cX12_copy 106 = .ok (.iaload, 1) := by decide +kernel
theorem dX12_copy_107 : decode cX12_copy 107 = .ok (.iastore, 1) := by decide +kernel
theorem dX12_copy_108 : decode cX12_copy 108 = .ok (.iconst 0, 1) := by decide +kernel
theorem dX12_copy_109 : decode cX12_copy 109 = .ok (.istore_n 3, 1) := by decide +kernel
theorem dX12_copy_110 : decode cX12_copy 110 = .ok (.iload_n 3, 1) := by decide +kernel
theorem dX12_copy_111 : decode cX12_copy 111 = .ok (.bipush 14, 2) := by decide +kernel
theorem dX12_copy_113 : decode cX12_copy 113 = .ok (.if_icmp .ge 119, 3) := by decide +kernel
theorem dX12_copy_116 : decode cX12_copy 116 = .ok (.aload_n 0, 1) := by decide +kernel
theorem dX12_copy_117 : decode cX12_copy 117 = .ok (.getfield 40, 3) := by decide +kernel
theorem dX12_copy_120 : decode cX12_copy 120 = .ok (.bipush 14, 2) := by decide +kernel
theorem dX12_copy_122 : decode cX12_copy 122 = .ok (.iload_n 2, 1) := by decide +kernel
theorem dX12_copy_123 : decode cX12_copy 123 = .ok (.imul, 1) := by decide +kernel
theorem dX12_copy_124 : decode cX12_copy 124 = .ok (.iload_n 3, 1) := by decide +kernel
theorem dX12_copy_125 : decode cX12_copy 125 = .ok (.iadd, 1) := by decide +kernel
theorem dX12_copy_126 : decode cX12_copy 126 = .ok (.aload_n 0, 1) := by decide +kernel
theorem dX12_copy_127 : decode cX12_copy 127 = .ok (.getfield 40, 3) := by decide +kernel
theorem dX12_copy_130 : decode cX12_copy 130 = .ok (.bipush 14, 2) := by decide +kernel
theorem dX12_copy_132 : decode cX12_copy 132 = .ok (.iload_n 1, 1) := by decide +kernel
theorem dX12_copy_133 : decode cX12_copy 133 = .ok (.imul, 1) := by decide +kernel
theorem dX12_copy_134 : decode cX12_copy 134 = .ok (.iload_n 3, 1) := by decide +kernel
theorem dX12_copy_135 : decode cX12_copy 135 = .ok (.iadd, 1) := by decide +kernel
theorem dX12_copy_136 : decode cX12_copy 136 = .ok (.baload, 1) := by decide +kernel
theorem dX12_copy_137 : decode cX12_copy 137 = .ok (.bastore, 1) := by decide +kernel
theorem dX12_copy_138 : decode cX12_copy 138 = .ok (.aload_n 0, 1) := by decide +kernel
theorem dX12_copy_139 : decode cX12_copy 139 = .ok (.getfield 43, 3) := by decide +kernel
theorem dX12_copy_142 : decode cX12_copy 142 = .ok (.bipush 14, 2) := by decide +kernel
theorem dX12_copy_144 : decode cX12_copy 144 = .ok (.iload_n 2, 1) := by decide +kernel
theorem dX12_copy_145 : decode cX12_copy 145 = .ok (.imul, 1) := by decide +kernel
theorem dX12_copy_146 : decode cX12_copy 146 = .ok (.iload_n 3, 1) := by decide +kernel
theorem dX12_copy_147 : decode cX12_copy 147 = .ok (.iadd, 1) := by decide +kernel
theorem dX12_copy_148 : decode cX12_copy 148 = .ok (.aload_n 0, 1) := by decide +kernel
theorem dX12_copy_149 : decode cX12_copy 149 = .ok (.getfield 43, 3) := by decide +kernel
theorem dX12_copy_152 : decode cX12_copy 152 = .ok (.bipush 14, 2) := by decide +kernel
theorem dX12_copy_154 : decode cX12_copy 154 = .ok (.iload_n 1, 1) := by decide +kernel
theorem dX12_copy_155 : decode cX12_copy 155 = .ok (.imul, 1) := by decide +kernel
theorem dX12_copy_156 : decode cX12_copy 156 = .ok (.iload_n 3, 1) := by decide +kernel
theorem dX12_copy_157 : decode cX12_copy 157 = .ok (.iadd, 1) := by decide +kernel
theorem dX12_copy_158 : decode cX12_copy 158 = .ok (.iaload, 1) := by decide +kernel
theorem dX12_copy_159 : decode cX12_copy 159 = .ok (.iastore, 1) := by decide +kernel
theorem dX12_copy_160 : decode cX12_copy 160 = .ok (.aload_n 0, 1) := by decide +kernel
theorem dX12_copy_161 : decode cX12_copy 161 = .ok (.getfield 46, 3) := by decide +kernel
theorem dX12_copy_164 : decode cX12_copy 164 = .ok (.bipush 14, 2) := by decide +kernel
theorem dX12_copy_166 : decode cX12_copy 166 = .ok (.iload_n 2, 1) := by decide +kernel
theorem dX12_copy_167 : decode cX12_copy 167 = .ok (.imul, 1) := by decide +kernel
theorem dX12_copy_168 : decode cX12_copy 168 = .ok (.iload_n 3, 1) := by decide +kernel
theorem dX12_copy_169 : decode cX12_copy 169 = .ok (.iadd, 1) := by decide +kernel
theorem dX12_copy_170 : decode cX12_copy 170 = .ok (.aload_n 0, 1) := by decide +kernel
theorem dX12_copy_171 : decode cX12_copy 171 = .ok (.getfield 46, 3) := by decide +kernel
theorem dX12_copy_174 : decode cX12_copy 174 = .ok (.bipush 14, 2) := by decide +kernel
theorem dX12_copy_176 : decode cX12_copy 176 = .ok (.iload_n 1, 1) := by decide +kernel
theorem dX12_copy_177 : decode cX12_copy 177 = .ok (.imul, 1) := by decide +kernel
theorem dX12_copy_178 : decode cX12_copy 178 = .ok (.iload_n 3, 1) := by decide +kernel
theorem dX12_copy_179 : decode cX12_copy 179 = .ok (.iadd, 1) := by decide +kernel
theorem dX12_copy_180 : decode cX12_copy 180 = .ok (.iaload, 1) := by decide +kernel
theorem dX12_copy_181 : decode cX12_copy 181 = .ok (.iastore, 1) := by decide +kernel
theorem dX12_copy_182 : decode cX12_copy 182 = .ok (.aload_n 0, 1) := by decide +kernel
theorem dX12_copy_183 : decode cX12_copy 183 = .ok (.getfield 49, 3) := by decide +kernel
theorem dX12_copy_186 : decode cX12_copy 186 = .ok (.bipush 14, 2) := by decide +kernel
theorem dX12_copy_188 : decode cX12_copy 188 = .ok (.iload_n 2, 1) := by decide +kernel
theorem dX12_copy_189 : decode cX12_copy 189 = .ok (.imul, 1) := by decide +kernel
theorem dX12_copy_190 : decode cX12_copy 190 = .ok (.iload_n 3, 1) := by decide +kernel
theorem dX12_copy_191 : decode cX12_copy 191 = .ok (.iadd, 1) := by decide +kernel
theorem dX12_copy_192 : decode cX12_copy 192 = .ok (.aload_n 0, 1) := by decide +kernel
theorem dX12_copy_193 : decode cX12_copy 193 = .ok (.getfield 49, 3) := by decide +kernel
theorem dX12_copy_196 : decode cX12_copy 196 = .ok (.bipush 14, 2) := by decide +kernel
theorem dX12_copy_198 : decode cX12_copy 198 = .ok (.iload_n 1, 1) := by decide +kernel
theorem dX12_copy_199 : decode cX12_copy 199 = .ok (.imul, 1) := by decide +kernel
theorem dX12_copy_200 : decode cX12_copy 200 = .ok (.iload_n 3, 1) := by decide +kernel
theorem dX12_copy_201 : decode cX12_copy 201 = .ok (.iadd, 1) := by decide +kernel
theorem dX12_copy_202 : decode cX12_copy 202 = .ok (.iaload, 1) := by decide +kernel
theorem dX12_copy_203 : decode cX12_copy 203 = .ok (.iastore, 1) := by decide +kernel
theorem dX12_copy_204 : decode cX12_copy 204 = .ok (.aload_n 0, 1) := by decide +kernel
theorem dX12_copy_205 : decode cX12_copy 205 = .ok (.getfield 52, 3) := by decide +kernel
theorem dX12_copy_208 : decode cX12_copy 208 = .ok (.bipush 14, 2) := by decide +kernel
theorem dX12_copy_210 : decode cX12_copy 210 = .ok (.iload_n 2, 1) := by decide +kernel
theorem dX12_copy_211 : decode cX12_copy 211 = .ok (.imul, 1) := by decide +kernel
theorem dX12_copy_212 : decode cX12_copy 212 = .ok (.iload_n 3, 1) := by decide +kernel
theorem dX12_copy_213 : decode cX12_copy 213 = .ok (.iadd, 1) := by decide +kernel
theorem dX12_copy_214 : decode cX12_copy 214 = .ok (.aload_n 0, 1) := by decide +kernel
theorem dX12_copy_215 : decode cX12_copy 215 = .ok (.getfield 52, 3) := by decide +kernel
theorem dX12_copy_218 : decode cX12_copy 218 = .ok (.bipush 14, 2) := by decide +kernel
theorem dX12_copy_220 : decode cX12_copy 220 = .ok (.iload_n 1, 1) := by decide +kernel
theorem dX12_copy_221 : decode cX12_copy 221 = .ok (.imul, 1) := by decide +kernel
theorem dX12_copy_222 : decode cX12_copy 222 = .ok (.iload_n 3, 1) := by decide +kernel
theorem dX12_copy_223 : decode cX12_copy 223 = .ok (.iadd, 1) := by decide +kernel
theorem dX12_copy_224 : decode cX12_copy 224 = .ok (.iaload, 1) := by decide +kernel
theorem dX12_copy_225 : decode cX12_copy 225 = .ok (.iastore, 1) := by decide +kernel
theorem dX12_copy_226 : decode cX12_copy 226 = .ok (.iinc 3 1, 3) := by decide +kernel
theorem dX12_copy_229 : decode cX12_copy 229 = .ok (.goto (-119), 3) := by decide +kernel
theorem dX12_copy_232 : decode cX12_copy 232 = .ok (.iconst 0, 1) := by decide +kernel
theorem dX12_copy_233 : decode cX12_copy 233 = .ok (.istore_n 3, 1) := by decide +kernel
theorem dX12_copy_234 : decode cX12_copy 234 = .ok (.iload_n 3, 1) := by decide +kernel
theorem dX12_copy_235 : decode cX12_copy 235 = .ok (.bipush 8, 2) := by decide +kernel
theorem dX12_copy_237 : decode cX12_copy 237 = .ok (.if_icmp .ge 53, 3) := by decide +kernel
theorem dX12_copy_240 : decode cX12_copy 240 = .ok (.aload_n 0, 1) := by decide +kernel
theorem dX12_copy_241 : decode cX12_copy 241 = .ok (.getfield 58, 3) := by decide +kernel
theorem dX12_copy_244 : decode cX12_copy 244 = .ok (.bipush 8, 2) := by decide +kernel
theorem dX12_copy_246 : decode cX12_copy 246 = .ok (.iload_n 2, 1) := by decide +kernel
theorem dX12_copy_247 : decode cX12_copy 247 = .ok (.imul, 1) := by decide +kernel
theorem dX12_copy_248 : decode cX12_copy 248 = .ok (.iload_n 3, 1) := by decide +kernel
theorem dX12_copy_249 : decode cX12_copy 249 = .ok (.iadd, 1) := by decide +kernel
theorem dX12_copy_250 : decode cX12_copy 250 = .ok (.aload_n 0, 1) := by decide +kernel
theorem dX12_copy_251 : decode cX12_copy 251 = .ok (.getfield 58, 3) := by decide +kernel
theorem dX12_copy_254 : decode cX12_copy 254 = .ok (.bipush 8, 2) := by decide +kernel
theorem dX12_copy_256 : decode cX12_copy 256 = .ok (.iload_n 1, 1) := by decide +kernel
theorem dX12_copy_257 : decode cX12_copy 257 = .ok (.imul, 1) := by decide +kernel
theorem dX12_copy_258 : decode cX12_copy 258 = .ok (.iload_n 3, 1) := by decide +kernel
theorem dX12_copy_259 : decode cX12_copy 259 = .ok (.iadd, 1) := by decide +kernel
theorem dX12_copy_260 : decode cX12_copy 260 = .ok (.iaload, 1) := by decide +kernel
theorem dX12_copy_261 : decode cX12_copy 261 = .ok (.iastore, 1) := by decide +kernel
theorem dX12_copy_262 : decode cX12_copy 262 = .ok (.aload_n 0, 1) := by decide +kernel
theorem dX12_copy_263 : decode cX12_copy 263 = .ok (.getfield 61, 3) := by decide +kernel
theorem dX12_copy_266 : decode cX12_copy 266 = .ok (.bipush 8, 2) := by decide +kernel
theorem dX12_copy_268 : decode cX12_copy 268 = .ok (.iload_n 2, 1) := by decide +kernel
theorem dX12_copy_269 : decode cX12_copy 269 = .ok (.imul, 1) := by decide +kernel
theorem dX12_copy_270 : decode cX12_copy 270 = .ok (.iload_n 3, 1) := by decide +kernel
theorem dX12_copy_271 : decode cX12_copy 271 = .ok (.iadd, 1) := by decide +kernel
theorem dX12_copy_272 : decode cX12_copy 272 = .ok (.aload_n 0, 1) := by decide +kernel
theorem dX12_copy_273 : decode cX12_copy 273 = .ok (.getfield 61, 3) := by decide +kernel
theorem dX12_copy_276 : decode cX12_copy 276 = .ok (.bipush 8, 2) := by decide +kernel
theorem dX12_copy_278 : decode cX12_copy 278 = .ok (.iload_n 1, 1) := by decide +kernel
theorem dX12_copy_279 : decode cX12_copy 279 = .ok (.imul, 1) := by decide +kernel
theorem dX12_copy_280 : decode cX12_copy 280 = .ok (.iload_n 3, 1) := by decide +kernel
theorem dX12_copy_281 : decode cX12_copy 281 = .ok (.iadd, 1) := by decide +kernel
theorem dX12_copy_282 : decode cX12_copy 282 = .ok (.iaload, 1) := by decide +kernel
theorem dX12_copy_283 : decode cX12_copy 283 = .ok (.iastore, 1) := by decide +kernel
theorem dX12_copy_284 : decode cX12_copy 284 = .ok (.iinc 3 1, 3) := by decide +kernel
theorem dX12_copy_287 : decode cX12_copy 287 = .ok (.goto (-53), 3) := by decide +kernel
theorem dX12_copy_290 : decode cX12_copy 290 = .ok (.iconst 0, 1) := by decide +kernel
theorem dX12_copy_291 : decode cX12_copy 291 = .ok (.istore_n 3, 1) := by decide +kernel
theorem dX12_copy_292 : decode cX12_copy 292 = .ok (.iload_n 3, 1) := by decide +kernel
theorem dX12_copy_293 : decode cX12_copy 293 = .ok (.bipush 12, 2) := by decide +kernel
theorem dX12_copy_295 : decode cX12_copy 295 = .ok (.if_icmp .ge 75, 3) := by decide +kernel
theorem dX12_copy_298 : decode cX12_copy 298 = .ok (.aload_n 0, 1) := by decide +kernel
theorem dX12_copy_299 : decode cX12_copy 299 = .ok (.getfield 67, 3) := by decide +kernel
theorem dX12_copy_302 : decode cX12_copy 302 = .ok (.bipush 12, 2) := by decide +kernel
theorem dX12_copy_304 : decode cX12_copy 304 = .ok (.iload_n 2, 1) := by decide +kernel
theorem dX12_copy_305 : decode cX12_copy 305 = .ok (.imul, 1) := by decide +kernel
theorem dX12_copy_306 : decode cX12_copy 306 = .ok (.iload_n 3, 1) := by decide +kernel
theorem dX12_copy_307 : decode cX12_copy 307 = .ok (.iadd, 1) := by decide +kernel
theorem dX12_copy_308 : decode cX12_copy 308 = .ok (.aload_n 0, 1) := by decide +kernel
theorem dX12_copy_309 : decode cX12_copy 309 = .ok (.getfield 67, 3) := by decide +kernel
theorem dX12_copy_312 : decode cX12_copy 312 = .ok (.bipush 12, 2) := by decide +kernel
theorem dX12_copy_314 : decode cX12_copy 314 = .ok (.iload_n 1, 1) := by decide +kernel
theorem dX12_copy_315 : decode cX12_copy 315 = .ok (.imul, 1) := by decide +kernel
theorem dX12_copy_316 : decode cX12_copy 316 = .ok (.iload_n 3, 1) := by decide +kernel
theorem dX12_copy_317 : decode cX12_copy 317 = .ok (.iadd, 1) := by decide +kernel
theorem dX12_copy_318 : decode cX12_copy 318 = .ok (.iaload, 1) := by decide +kernel
theorem dX12_copy_319 : decode cX12_copy 319 = .ok (.iastore, 1) := by decide +kernel
theorem dX12_copy_320 : decode cX12_copy 320 = .ok (.aload_n 0, 1) := by decide +kernel
theorem dX12_copy_321 : decode cX12_copy 321 = .ok (.getfield 70, 3) := by decide +kernel
theorem dX12_copy_324 : decode cX12_copy 324 = .ok (.bipush 12, 2) := by decide +kernel
theorem dX12_copy_326 : decode cX12_copy 326 = .ok (.iload_n 2, 1) := by decide +kernel
theorem dX12_copy_327 : decode cX12_copy 327 = .ok (.imul, 1) := by decide +kernel
theorem dX12_copy_328 : decode cX12_copy 328 = .ok (.iload_n 3, 1) := by decide +kernel
theorem dX12_copy_329 : decode cX12_copy 329 = .ok (.iadd, 1) := by decide +kernel
theorem dX12_copy_330 : decode cX12_copy 330 = .ok (.aload_n 0, 1) := by decide +kernel
theorem dX12_copy_331 : decode cX12_copy 331 = .ok (.getfield 70, 3) := by decide +kernel
theorem dX12_copy_334 : decode cX12_copy 334 = .ok (.bipush 12, 2) := by decide +kernel
theorem dX12_copy_336 : decode cX12_copy 336 = .ok (.iload_n 1, 1) := by decide +kernel
theorem dX12_copy_337 : decode cX12_copy 337 = .ok (.imul, 1) := by decide +kernel
theorem dX12_copy_338 : decode cX12_copy 338 = .ok (.iload_n 3, 1) := by decide +kernel
theorem dX12_copy_339 : decode cX12_copy 339 = .ok (.iadd, 1) := by decide +kernel
theorem dX12_copy_340 : decode cX12_copy 340 = .ok (.iaload, 1) := by decide +kernel
theorem dX12_copy_341 : decode cX12_copy 341 = .ok (.iastore, 1) := by decide +kernel
theorem dX12_copy_342 : decode cX12_copy 342 = .ok (.aload_n 0, 1) := by decide +kernel
theorem dX12_copy_343 : decode cX12_copy 343 = .ok (.getfield 73, 3) := by decide +kernel
theorem dX12_copy_346 : decode cX12_copy 346 = .ok (.bipush 12, 2) := by decide +kernel
theorem dX12_copy_348 : decode cX12_copy 348 = .ok (.iload_n 2, 1) := by decide +kernel
theorem dX12_copy_349 : decode cX12_copy 349 = .ok (.imul, 1) := by decide +kernel
theorem dX12_copy_350 : decode cX12_copy 350 = .ok (.iload_n 3, 1) := by decide +kernel
theorem dX12_copy_351 : decode cX12_copy 351 = .ok (.iadd, 1) := by decide +kernel
theorem dX12_copy_352 : decode cX12_copy 352 = .ok (.aload_n 0, 1) := by decide +kernel
theorem dX12_copy_353 : decode cX12_copy 353 = .ok (.getfield 73, 3) := by decide +kernel
theorem dX12_copy_356 : decode cX12_copy 356 = .ok (.bipush 12, 2) := by decide +kernel
theorem dX12_copy_358 : decode cX12_copy 358 = .ok (.iload_n 1, 1) := by decide +kernel
theorem dX12_copy_359 : decode cX12_copy 359 = .ok (.imul, 1) := by decide +kernel
theorem dX12_copy_360 : decode cX12_copy 360 = .ok (.iload_n 3, 1) := by decide +kernel
theorem dX12_copy_361 : decode cX12_copy 361 = .ok (.iadd, 1) := by decide +kernel
theorem dX12_copy_362 : decode cX12_copy 362 = .ok (.iaload, 1) := by decide +kernel
theorem dX12_copy_363 : decode cX12_copy 363 = .ok (.iastore, 1) := by decide +kernel
theorem dX12_copy_364 : decode cX12_copy 364 = .ok (.iinc 3 1, 3) := by decide +kernel
theorem dX12_copy_367 : decode cX12_copy 367 = .ok (.goto (-75), 3) := by decide +kernel
theorem dX12_copy_370 : decode cX12_copy 370 = .ok (.iconst 0, 1) := by decide +kernel
theorem dX12_copy_371 : decode cX12_copy 371 = .ok (.istore_n 3, 1) := by decide +kernel
theorem dX12_copy_372 : decode cX12_copy 372 = .ok (.iload_n 3, 1) := by decide +kernel
theorem dX12_copy_373 : decode cX12_copy 373 = .ok (.iconst 5, 1) := by decide +kernel
theorem dX12_copy_374 : decode cX12_copy 374 = .ok (.if_icmp .ge 69, 3) := by decide +kernel
theorem dX12_copy_377 : decode cX12_copy 377 = .ok (.aload_n 0, 1) := by decide +kernel
theorem dX12_copy_378 : decode cX12_copy 378 = .ok (.getfield 79, 3) := by decide +kernel
theorem dX12_copy_381 : decode cX12_copy 381 = .ok (.iconst 5, 1) := by decide +kernel
theorem dX12_copy_382 : decode cX12_copy 382 = .ok (.iload_n 2, 1) := by decide +kernel
theorem dX12_copy_383 : decode cX12_copy 383 = .ok (.imul, 1) := by decide +kernel
theorem dX12_copy_384 : decode cX12_copy 384 = .ok (.iload_n 3, 1) := by decide +kernel
theorem dX12_copy_385 : decode cX12_copy 385 = .ok (.iadd, 1) := by decide +kernel
theorem dX12_copy_386 : decode cX12_copy 386 = .ok (.aload_n 0, 1) := by decide +kernel
theorem dX12_copy_387 : decode cX12_copy 387 = .ok (.getfield 79, 3) := by decide +kernel
theorem dX12_copy_390 : decode cX12_copy 390 = .ok (.iconst 5, 1) := by decide +kernel
theorem dX12_copy_391 : decode cX12_copy 391 = .ok (.iload_n 1, 1) := by decide +kernel
theorem dX12_copy_392 : decode cX12_copy 392 = .ok (.imul, 1) := by decide +kernel
theorem dX12_copy_393 : decode cX12_copy 393 = .ok (.iload_n 3, 1) := by decide +kernel
theorem dX12_copy_394 : decode cX12_copy 394 = .ok (.iadd, 1) := by decide +kernel
theorem dX12_copy_395 : decode cX12_copy 395 = .ok (.iaload, 1) := by decide +kernel
theorem dX12_copy_396 : decode cX12_copy 396 = .ok (.iastore, 1) := by decide +kernel
theorem dX12_copy_397 : decode cX12_copy 397 = .ok (.aload_n 0, 1) := by decide +kernel
theorem dX12_copy_398 : decode cX12_copy 398 = .ok (.getfield 82, 3) := by decide +kernel
theorem dX12_copy_401 : decode cX12_copy 401 = .ok (.iconst 5, 1) := by decide +kernel
theorem dX12_copy_402 : decode cX12_copy 402 = .ok (.iload_n 2, 1) := by decide +kernel
theorem dX12_copy_403 : decode cX12_copy 403 = .ok (.imul, 1) := by decide +kernel
theorem dX12_copy_404 : decode cX12_copy 404 = .ok (.iload_n 3, 1) := by decide +kernel
theorem dX12_copy_405 : decode cX12_copy 405 = .ok (.iadd, 1) := by decide +kernel
theorem dX12_copy_406 : decode cX12_copy 406 = .ok (.aload_n 0, 1) := by decide +kernel
theorem dX12_copy_407 : decode cX12_copy 407 = .ok (.getfield 82, 3) := by decide +kernel
theorem dX12_copy_410 : decode cX12_copy 410 = .ok (.iconst 5, 1) := by decide +kernel
theorem dX12_copy_411 : decode cX12_copy 411 = .ok (.iload_n 1, 1) := by decide +kernel
theorem dX12_copy_412 : decode cX12_copy 412 = .ok (.imul, 1) := by decide +kernel
theorem dX12_copy_413 : decode cX12_copy 413 = .ok (.iload_n 3, 1) := by decide +kernel
theorem dX12_copy_414 : decode cX12_copy 414 = .ok (.iadd, 1) := by decide +kernel
theorem dX12_copy_415 : decode cX12_copy 415 = .ok (.iaload, 1) := by decide +kernel
theorem dX12_copy_416 : decode cX12_copy 416 = .ok (.iastore, 1) := by decide +kernel
theorem dX12_copy_417 : decode cX12_copy 417 = .ok (.aload_n 0, 1) := by decide +kernel
theorem dX12_copy_418 : decode cX12_copy 418 = .ok (.getfield 85, 3) := by decide +kernel
theorem dX12_copy_421 : decode cX12_copy 421 = .ok (.iconst 5, 1) := by decide +kernel
theorem dX12_copy_422 : decode cX12_copy 422 = .ok (.iload_n 2, 1) := by decide +kernel
theorem dX12_copy_423 : decode cX12_copy 423 = .ok (.imul, 1) := by decide +kernel
theorem dX12_copy_424 : decode cX12_copy 424 = .ok (.iload_n 3, 1) := by decide +kernel
theorem dX12_copy_425 : decode cX12_copy 425 = .ok (.iadd, 1) := by decide +kernel
theorem dX12_copy_426 : decode cX12_copy 426 = .ok (.aload_n 0, 1) := by decide +kernel
theorem dX12_copy_427 : decode cX12_copy 427 = .ok (.getfield 85, 3) := by decide +kernel
theorem dX12_copy_430 : decode cX12_copy 430 = .ok (.iconst 5, 1) := by decide +kernel
theorem dX12_copy_431 : decode cX12_copy 431 = .ok (.iload_n 1, 1) := by decide +kernel
theorem dX12_copy_432 : decode cX12_copy 432 = .ok (.imul, 1) := by decide +kernel
theorem dX12_copy_433 : decode cX12_copy 433 = .ok (.iload_n 3, 1) := by decide +kernel
theorem dX12_copy_434 : decode cX12_copy 434 = .ok (.iadd, 1) := by decide +kernel
theorem dX12_copy_435 : decode cX12_copy 435 = .ok (.iaload, 1) := by decide +kernel
theorem dX12_copy_436 : decode cX12_copy 436 = .ok (.iastore, 1) := by decide +kernel
theorem dX12_copy_437 : decode cX12_copy 437 = .ok (.iinc 3 1, 3) := by decide +kernel
theorem dX12_copy_440 : decode cX12_copy 440 = .ok (.goto (-68), 3) := by decide +kernel
theorem dX12_copy_443 : decode cX12_copy 443 = .ok (.iconst 0, 1) := by decide +kernel
theorem dX12_copy_444 : decode cX12_copy 444 = .ok (.istore_n 3, 1) := by decide +kernel
theorem dX12_copy_445 : decode cX12_copy 445 = .ok (.iload_n 3, 1) := by decide +kernel
theorem dX12_copy_446 : decode cX12_copy 446 = .ok (.bipush 6, 2) := by decide +kernel
theorem dX12_copy_448 : decode cX12_copy 448 = .ok (.if_icmp .ge 53, 3) := by decide +kernel
theorem dX12_copy_451 : decode cX12_copy 451 = .ok (.aload_n 0, 1) := by decide +kernel
theorem dX12_copy_452 : decode cX12_copy 452 = .ok (.getfield 91, 3) := by decide +kernel
theorem dX12_copy_455 : decode cX12_copy 455 = .ok (.bipush 6, 2) := by decide +kernel
theorem dX12_copy_457 : decode cX12_copy 457 = .ok (.iload_n 2, 1) := by decide +kernel
theorem dX12_copy_458 : decode cX12_copy 458 = .ok (.imul, 1) := by decide +kernel
theorem dX12_copy_459 : decode cX12_copy 459 = .ok (.iload_n 3, 1) := by decide +kernel
theorem dX12_copy_460 : decode cX12_copy 460 = .ok (.iadd, 1) := by decide +kernel
theorem dX12_copy_461 : decode cX12_copy 461 = .ok (.aload_n 0, 1) := by decide +kernel
theorem dX12_copy_462 : decode cX12_copy 462 = .ok (.getfield 91, 3) := by decide +kernel
theorem dX12_copy_465 : decode cX12_copy 465 = .ok (.bipush 6, 2) := by decide +kernel
theorem dX12_copy_467 : decode cX12_copy 467 = .ok (.iload_n 1, 1) := by decide +kernel
theorem dX12_copy_468 : decode cX12_copy 468 = .ok (.imul, 1) := by decide +kernel
theorem dX12_copy_469 : decode cX12_copy 469 = .ok (.iload_n 3, 1) := by decide +kernel
theorem dX12_copy_470 : decode cX12_copy 470 = .ok (.iadd, 1) := by decide +kernel
theorem dX12_copy_471 : decode cX12_copy 471 = .ok (.iaload, 1) := by decide +kernel
theorem dX12_copy_472 : decode cX12_copy 472 = .ok (.iastore, 1) := by decide +kernel
theorem dX12_copy_473 : decode cX12_copy 473 = .ok (.aload_n 0, 1) := by decide +kernel
theorem dX12_copy_474 : decode cX12_copy 474 = .ok (.getfield 94, 3) := by decide +kernel
theorem dX12_copy_477 : decode cX12_copy 477 = .ok (.bipush 6, 2) := by decide +kernel
theorem dX12_copy_479 : decode cX12_copy 479 = .ok (.iload_n 2, 1) := by decide +kernel
theorem dX12_copy_480 : decode cX12_copy 480 = .ok (.imul, 1) := by decide +kernel
theorem dX12_copy_481 : decode cX12_copy 481 = .ok (.iload_n 3, 1) := by decide +kernel
theorem dX12_copy_482 : decode cX12_copy 482 = .ok (.iadd, 1) := by decide +kernel
theorem dX12_copy_483 : decode cX12_copy 483 = .ok (.aload_n 0, 1) := by decide +kernel
theorem dX12_copy_484 : decode cX12_copy 484 = .ok (.getfield 94, 3) := by decide +kernel
theorem dX12_copy_487 : decode cX12_copy 487 = .ok (.bipush 6, 2) := by decide +kernel
theorem dX12_copy_489 : decode cX12_copy 489 = .ok (.iload_n 1, 1) := by decide +kernel
theorem dX12_copy_490 : decode cX12_copy 490 = .ok (.imul, 1) := by decide +kernel
theorem dX12_copy_491 : decode cX12_copy 491 = .ok (.iload_n 3, 1) := by decide +kernel
theorem dX12_copy_492 : decode cX12_copy 492 = .ok (.iadd, 1) := by decide +kernel
theorem dX12_copy_493 : decode cX12_copy 493 = .ok (.iaload, 1) := by decide +kernel
theorem dX12_copy_494 : decode cX12_copy 494 = .ok (.iastore, 1) := by decide +kernel
theorem dX12_copy_495 : decode cX12_copy 495 = .ok (.iinc 3 1, 3) := by decide +kernel
theorem dX12_copy_498 : decode cX12_copy 498 = .ok (.goto (-53), 3) := by decide +kernel
theorem dX12_copy_501 : decode cX12_copy 501 = .ok (.iconst 0, 1) := by decide +kernel
theorem dX12_copy_502 : decode cX12_copy 502 = .ok (.istore_n 3, 1) := by decide +kernel
theorem dX12_copy_503 : decode cX12_copy 503 = .ok (.iload_n 3, 1) := by decide +kernel
theorem dX12_copy_504 : decode cX12_copy 504 = .ok (.sipush 500, 3) := by decide +kernel
theorem dX12_copy_507 : decode cX12_copy 507 = .ok (.if_icmp .ge 57, 3) := by decide +kernel
theorem dX12_copy_510 : decode cX12_copy 510 = .ok (.aload_n 0, 1) := by decide +kernel
theorem dX12_copy_511 : decode cX12_copy 511 = .ok (.getfield 100, 3) := by decide +kernel
theorem dX12_copy_514 : decode cX12_copy 514 = .ok (.sipush 500, 3) := by decide +kernel
theorem dX12_copy_517 : decode cX12_copy 517 = .ok (.iload_n 2, 1) := by decide +kernel
theorem dX12_copy_518 : decode cX12_copy 518 = .ok (.imul, 1) := by decide +kernel
theorem dX12_copy_519 : decode cX12_copy 519 = .ok (.iload_n 3, 1) := by decide +kernel
theorem dX12_copy_520 : decode cX12_copy 520 = .ok (.iadd, 1) := by decide +kernel
theorem dX12_copy_521 : decode cX12_copy 521 = .ok (.aload_n 0, 1) := by decide +kernel
theorem dX12_copy_522 : decode cX12_copy 522 = .ok (.getfield 100, 3) := by decide +kernel
theorem dX12_copy_525 : decode cX12_copy 525 = .ok (.sipush 500, 3) := by decide +kernel
theorem dX12_copy_528 : decode cX12_copy 528 = .ok (.iload_n 1, 1) := by decide +kernel
theorem dX12_copy_529 : decode cX12_copy 529 = .ok (.imul, 1) := by decide +kernel
theorem dX12_copy_530 : decode cX12_copy 530 = .ok (.iload_n 3, 1) := by decide +kernel
theorem dX12_copy_531 : decode cX12_copy 531 = .ok (.iadd, 1) := by decide +kernel
theorem dX12_copy_532 : decode cX12_copy 532 = .ok (.iaload, 1) := by decide +kernel
theorem dX12_copy_533 : decode cX12_copy 533 = .ok (.iastore, 1) := by decide +kernel
theorem dX12_copy_534 : decode cX12_copy 534 = .ok (.aload_n 0, 1) := by decide +kernel
theorem dX12_copy_535 : decode cX12_copy 535 = .ok (.getfield 103, 3) := by decide +kernel
theorem dX12_copy_538 : decode cX12_copy 538 = .ok (.sipush 500, 3) := by decide +kernel
theorem dX12_copy_541 : decode cX12_copy 541 = .ok (.iload_n 2, 1) := by decide +kernel
theorem dX12_copy_542 : decode cX12_copy 542 = .ok (.imul, 1) := by decide +kernel
theorem dX12_copy_543 : decode cX12_copy 543 = .ok (.iload_n 3, 1) := by decide +kernel
theorem dX12_copy_544 : decode cX12_copy 544 = .ok (.iadd, 1) := by decide +kernel
theorem dX12_copy_545 : decode cX12_copy 545 = .ok (.aload_n 0, 1) := by decide +kernel
theorem dX12_copy_546 : decode cX12_copy 546 = .ok (.getfield 103, 3) := by decide +kernel
theorem dX12_copy_549 : decode cX12_copy 549 = .ok (.sipush 500, 3) := by decide +kernel
theorem dX12_copy_552 : decode cX12_copy 552 = .ok (.iload_n 1, 1) := by decide +kernel
theorem dX12_copy_553 : decode cX12_copy 553 = .ok (.imul, 1) := by decide +kernel
theorem dX12_copy_554 : decode cX12_copy 554 = .ok (.iload_n 3, 1) := by decide +kernel
theorem dX12_copy_555 : decode cX12_copy 555 = .ok (.iadd, 1) := by decide +kernel
theorem dX12_copy_556 : decode cX12_copy 556 = .ok (.iaload, 1) := by decide +kernel
theorem dX12_copy_557 : decode cX12_copy 557 = .ok (.iastore, 1) := by decide +kernel
theorem dX12_copy_558 : decode cX12_copy 558 = .ok (.iinc 3 1, 3) := by decide +kernel
theorem dX12_copy_561 : decode cX12_copy 561 = .ok (.goto (-58), 3) := by decide +kernel
theorem dX12_copy_564 : decode cX12_copy 564 = .ok (.iconst 0, 1) := by decide +kernel
theorem dX12_copy_565 : decode cX12_copy 565 = .ok (.istore_n 3, 1) := by decide +kernel
theorem dX12_copy_566 : decode cX12_copy 566 = .ok (.iload_n 3, 1) := by decide +kernel
theorem dX12_copy_567 : decode cX12_copy 567 = .ok (.sipush 200, 3) := by decide +kernel
theorem dX12_copy_570 : decode cX12_copy 570 = .ok (.if_icmp .ge 153, 3) := by decide +kernel
theorem dX12_copy_573 : decode cX12_copy 573 = .ok (.aload_n 0, 1) := by decide +kernel
theorem dX12_copy_574 : decode cX12_copy 574 = .ok (.getfield 109, 3) := by decide +kernel
theorem dX12_copy_577 : decode cX12_copy 577 = .ok (.sipush 200, 3) := by decide +kernel
theorem dX12_copy_580 : decode cX12_copy 580 = .ok (.iload_n 2, 1) := by decide +kernel
theorem dX12_copy_581 : decode cX12_copy 581 = .ok (.imul, 1) := by decide +kernel
theorem dX12_copy_582 : decode cX12_copy 582 = .ok (.iload_n 3, 1) := by decide +kernel
theorem dX12_copy_583 : decode cX12_copy 583 = .ok (.iadd, 1) := by decide +kernel
theorem dX12_copy_584 : decode cX12_copy 584 = .ok (.aload_n 0, 1) := by decide +kernel
theorem dX12_copy_585 : decode cX12_copy 585 = .ok (.getfield 109, 3) := by decide +kernel
theorem dX12_copy_588 : decode cX12_copy 588 = .ok (.sipush 200, 3) := by decide +kernel
theorem dX12_copy_591 : decode cX12_copy 591 = .ok (.iload_n 1, 1) := by decide +kernel
theorem dX12_copy_592 : decode cX12_copy 592 = .ok (.imul, 1) := by decide +kernel
theorem dX12_copy_593 : decode cX12_copy 593 = .ok (.iload_n 3, 1) := by decide +kernel
theorem dX12_copy_594 : decode cX12_copy 594 = .ok (.iadd, 1) := by decide +kernel
theorem dX12_copy_595 : decode cX12_copy 595 = .ok (.baload, 1) := by decide +kernel
theorem dX12_copy_596 : decode cX12_copy 596 = .ok (.bastore, 1) := by decide +kernel
theorem dX12_copy_597 : decode cX12_copy 597 = .ok (.aload_n 0, 1) := by decide +kernel
theorem dX12_copy_598 : decode cX12_copy 598 = .ok (.getfield 112, 3) := by decide +kernel
theorem dX12_copy_601 : decode cX12_copy 601 = .ok (.sipush 200, 3) := by decide +kernel
theorem dX12_copy_604 : decode cX12_copy 604 = .ok (.iload_n 2, 1) := by decide +kernel
theorem dX12_copy_605 : decode cX12_copy 605 = .ok (.imul, 1) := by decide +kernel
theorem dX12_copy_606 : decode cX12_copy 606 = .ok (.iload_n 3, 1) := by decide +kernel
theorem dX12_copy_607 : decode cX12_copy 607 = .ok (.iadd, 1) := by decide +kernel
theorem dX12_copy_608 : decode cX12_copy 608 = .ok (.aload_n 0, 1) := by decide +kernel
theorem dX12_copy_609 : decode cX12_copy 609 = .ok (.getfield 112, 3) := by decide +kernel
theorem dX12_copy_612 : decode cX12_copy 612 = .ok (.sipush 200, 3) := by decide +kernel
theorem dX12_copy_615 : decode cX12_copy 615 = .ok (.iload_n 1, 1) := by decide +kernel
theorem dX12_copy_616 : decode cX12_copy 616 = .ok (.imul, 1) := by decide +kernel
theorem dX12_copy_617 : decode cX12_copy 617 = .ok (.iload_n 3, 1) := by decide +kernel
theorem dX12_copy_618 : decode cX12_copy 618 = .ok (.iadd, 1) := by decide +kernel
theorem dX12_copy_619 : decode cX12_copy 619 = .ok (.iaload, 1) := by decide +kernel
theorem dX12_copy_620 : decode cX12_copy 620 = .ok (.iastore, 1) := by decide +kernel
theorem dX12_copy_621 : decode cX12_copy 621 = .ok (.aload_n 0, 1) := by decide +kernel
theorem dX12_copy_622 : decode cX12_copy 622 = .ok (.getfield 115, 3) := by decide +kernel
theorem dX12_copy_625 : decode cX12_copy 625 = .ok (.sipush 200, 3) := by decide +kernel
theorem dX12_copy_628 : decode cX12_copy 628 = .ok (.iload_n 2, 1) := by decide +kernel
theorem dX12_copy_629 : decode cX12_copy 629 = .ok (.imul, 1) := by decide +kernel
theorem dX12_copy_630 : decode cX12_copy 630 = .ok (.iload_n 3, 1) := by decide +kernel
theorem dX12_copy_631 : decode cX12_copy 631 = .ok (.iadd, 1) := by decide +kernel
theorem dX12_copy_632 : decode cX12_copy 632 = .ok (.aload_n 0, 1) := by decide +kernel
theorem dX12_copy_633 : decode cX12_copy 633 = .ok (.getfield 115, 3) := by decide +kernel
theorem dX12_copy_636 : decode cX12_copy 636 = .ok (.sipush 200, 3) := by decide +kernel
theorem dX12_copy_639 : decode cX12_copy 639 = .ok (.iload_n 1, 1) := by decide +kernel
theorem dX12_copy_640 : decode cX12_copy 640 = .ok (.imul, 1) := by decide +kernel
theorem dX12_copy_641 : decode cX12_copy 641 = .ok (.iload_n 3, 1) := by decide +kernel
theorem dX12_copy_642 : decode cX12_copy 642 = .ok (.iadd, 1) := by decide +kernel
theorem dX12_copy_643 : decode cX12_copy 643 = .ok (.iaload, 1) := by decide +kernel
theorem dX12_copy_644 : decode cX12_copy 644 = .ok (.iastore, 1) := by decide +kernel
theorem dX12_copy_645 : decode cX12_copy 645 = .ok (.aload_n 0, 1) := by decide +kernel
theorem dX12_copy_646 : decode cX12_copy 646 = .ok (.getfield 118, 3) := by decide +kernel
theorem dX12_copy_649 : decode cX12_copy 649 = .ok (.sipush 200, 3) := by decide +kernel
theorem dX12_copy_652 : decode cX12_copy 652 = .ok (.iload_n 2, 1) := by decide +kernel
theorem dX12_copy_653 : decode cX12_copy 653 = .ok (.imul, 1) := by decide +kernel
theorem dX12_copy_654 : decode cX12_copy 654 = .ok (.iload_n 3, 1) := by decide +kernel
theorem dX12_copy_655 : decode cX12_copy 655 = .ok (.iadd, 1) := by decide +kernel
theorem dX12_copy_656 : decode cX12_copy 656 = .ok (.aload_n 0, 1) := by decide +kernel
theorem dX12_copy_657 : decode cX12_copy 657 = .ok (.getfield 118, 3) := by decide +kernel
theorem dX12_copy_660 : decode cX12_copy 660 = .ok (.sipush 200, 3) := by decide +kernel
theorem dX12_copy_663 : decode cX12_copy 663 = .ok (.iload_n 1, 1) := by decide +kernel
theorem dX12_copy_664 : decode cX12_copy 664 = .ok (.imul, 1) := by decide +kernel
theorem dX12_copy_665 : decode cX12_copy 665 = .ok (.iload_n 3, 1) := by decide +kernel
theorem dX12_copy_666 : decode cX12_copy 666 = .ok (.iadd, 1) := by decide +kernel
theorem dX12_copy_667 : decode cX12_copy 667 = .ok (.iaload, 1) := by decide +kernel
theorem dX12_copy_668 : decode cX12_copy 668 = .ok (.iastore, 1) := by decide +kernel
theorem dX12_copy_669 : decode cX12_copy 669 = .ok (.aload_n 0, 1) := by decide +kernel
theorem dX12_copy_670 : decode cX12_copy 670 = .ok (.getfield 121, 3) := by decide +kernel
theorem dX12_copy_673 : decode cX12_copy 673 = .ok (.sipush 200, 3) := by decide +kernel
theorem dX12_copy_676 : decode cX12_copy 676 = .ok (.iload_n 2, 1) := by decide +kernel
theorem dX12_copy_677 : decode cX12_copy 677 = .ok (.imul, 1) := by decide +kernel
theorem dX12_copy_678 : decode cX12_copy 678 = .ok (.iload_n 3, 1) := by decide +kernel
theorem dX12_copy_679 : decode cX12_copy 679 = .ok (.iadd, 1) := by decide +kernel
theorem dX12_copy_680 : decode cX12_copy 680 = .ok (.aload_n 0, 1) := by decide +kernel
theorem dX12_copy_681 : decode cX12_copy 681 = .ok (.getfield 121, 3) := by decide +kernel
theorem dX12_copy_684 : decode cX12_copy 684 = .ok (.sipush 200, 3) := by decide +kernel
theorem dX12_copy_687 : decode cX12_copy 687 = .ok (.iload_n 1, 1) := by decide +kernel
theorem dX12_copy_688 : decode cX12_copy 688 = .ok (.imul, 1) := by decide +kernel
theorem dX12_copy_689 : decode cX12_copy 689 = .ok (.iload_n 3, 1) := by decide +kernel
theorem dX12_copy_690 : decode cX12_copy 690 = .ok (.iadd, 1) := by decide +kernel
theorem dX12_copy_691 : decode cX12_copy 691 = .ok (.iaload, 1) := by decide +kernel
theorem dX12_copy_692 : decode cX12_copy 692 = .ok (.iastore, 1) := by decide +kernel
theorem dX12_copy_693 : decode cX12_copy 693 = .ok (.aload_n 0, 1) := by decide +kernel
theorem dX12_copy_694 : decode cX12_copy 694 = .ok (.getfield 124, 3) := by decide +kernel
theorem dX12_copy_697 : decode cX12_copy 697 = .ok (.sipush 200, 3) := by decide +kernel
theorem dX12_copy_700 : decode cX12_copy 700 = .ok (.iload_n 2, 1) := by decide +kernel
theorem dX12_copy_701 : decode cX12_copy 701 = .ok (.imul, 1) := by decide +kernel
theorem dX12_copy_702 : decode cX12_copy 702 = .ok (.iload_n 3, 1) := by decide +kernel
theorem dX12_copy_703 : decode cX12_copy 703 = .ok (.iadd, 1) := by decide +kernel
theorem dX12_copy_704 : decode cX12_copy 704 = .ok (.aload_n 0, 1) := by decide +kernel
theorem dX12_copy_705 : decode cX12_copy 705 = .ok (.getfield 124, 3) := by decide +kernel
theorem dX12_copy_708 : decode cX12_copy 708 = .ok (.sipush 200, 3) := by decide +kernel
theorem dX12_copy_711 : decode cX12_copy 711 = .ok (.iload_n 1, 1) := by decide +kernel
theorem dX12_copy_712 : decode cX12_copy 712 = .ok (.imul, 1) := by decide +kernel
theorem dX12_copy_713 : decode cX12_copy 713 = .ok (.iload_n 3, 1) := by decide +kernel
theorem dX12_copy_714 : decode cX12_copy 714 = .ok (.iadd, 1) := by decide +kernel
theorem dX12_copy_715 : decode cX12_copy 715 = .ok (.iaload, 1) := by decide +kernel
theorem dX12_copy_716 : decode cX12_copy 716 = .ok (.iastore, 1) := by decide +kernel
theorem dX12_copy_717 : decode cX12_copy 717 = .ok (.iinc 3 1, 3) := by decide +kernel
theorem dX12_copy_720 : decode cX12_copy 720 = .ok (.goto (-154), 3) := by decide +kernel
theorem dX12_copy_723 : decode cX12_copy 723 = .ok (.iconst 0, 1) := by decide +kernel
theorem dX12_copy_724 : decode cX12_copy 724 = .ok (.istore_n 3, 1) := by decide +kernel
theorem dX12_copy_725 : decode cX12_copy 725 = .ok (.iload_n 3, 1) := by decide +kernel
theorem dX12_copy_726 : decode cX12_copy 726 = .ok (.bipush 60, 2) := by decide +kernel
theorem dX12_copy_728 : decode cX12_copy 728 = .ok (.if_icmp .ge 97, 3) := by decide +kernel
theorem dX12_copy_731 : decode cX12_copy 731 = .ok (.aload_n 0, 1) := by decide +kernel
theorem dX12_copy_732 : decode cX12_copy 732 = .ok (.getfield 130, 3) := by decide +kernel
theorem dX12_copy_735 : decode cX12_copy 735 = .ok (.bipush 60, 2) := by decide +kernel
theorem dX12_copy_737 : decode cX12_copy 737 = .ok (.iload_n 2, 1) := by decide +kernel
theorem dX12_copy_738 : decode cX12_copy 738 = .ok (.imul, 1) := by decide +kernel
theorem dX12_copy_739 : decode cX12_copy 739 = .ok (.iload_n 3, 1) := by decide +kernel
theorem dX12_copy_740 : decode cX12_copy 740 = .ok (.iadd, 1) := by decide +kernel
theorem dX12_copy_741 : decode cX12_copy 741 = .ok (.aload_n 0, 1) := by decide +kernel
theorem dX12_copy_742 : decode cX12_copy 742 = .ok (.getfield 130, 3) := by decide +kernel
theorem dX12_copy_745 : decode cX12_copy 745 = .ok (.bipush 60, 2) := by decide +kernel
theorem dX12_copy_747 : decode cX12_copy 747 = .ok (.iload_n 1, 1) := by decide +kernel
theorem dX12_copy_748 : decode cX12_copy 748 = .ok (.imul, 1) := by decide +kernel
theorem dX12_copy_749 : decode cX12_copy 749 = .ok (.iload_n 3, 1) := by decide +kernel
theorem dX12_copy_750 : decode cX12_copy 750 = .ok (.iadd, 1) := by decide +kernel
theorem dX12_copy_751 : decode cX12_copy 751 = .ok (.iaload, 1) := by decide +kernel
theorem dX12_copy_752 : decode cX12_copy 752 = .ok (.iastore, 1) := by decide +kernel
theorem dX12_copy_753 : decode cX12_copy 753 = .ok (.aload_n 0, 1) := by decide +kernel
theorem dX12_copy_754 : decode cX12_copy 754 = .ok (.getfield 133, 3) := by decide +kernel
theorem dX12_copy_757 : decode cX12_copy 757 = .ok (.bipush 60, 2) := by decide +kernel
theorem dX12_copy_759 : decode cX12_copy 759 = .ok (.iload_n 2, 1) := by decide +kernel
theorem dX12_copy_760 : decode cX12_copy 760 = .ok (.imul, 1) := by decide +kernel
theorem dX12_copy_761 : decode cX12_copy 761 = .ok (.iload_n 3, 1) := by decide +kernel
theorem dX12_copy_762 : decode cX12_copy 762 = .ok (.iadd, 1) := by decide +kernel
theorem dX12_copy_763 : decode cX12_copy 763 = .ok (.aload_n 0, 1) := by decide +kernel
theorem dX12_copy_764 : decode cX12_copy 764 = .ok (.getfield 133, 3) := by decide +kernel
theorem dX12_copy_767 : decode cX12_copy 767 = .ok (.bipush 60, 2) := by decide +kernel
theorem dX12_copy_769 : decode cX12_copy 769 = .ok (.iload_n 1, 1) := by decide +kernel
theorem dX12_copy_770 : decode cX12_copy 770 = .ok (.imul, 1) := by decide +kernel
theorem dX12_copy_771 : decode cX12_copy 771 = .ok (.iload_n 3, 1) := by decide +kernel
theorem dX12_copy_772 : decode cX12_copy 772 = .ok (.iadd, 1) := by decide +kernel
theorem dX12_copy_773 : decode cX12_copy 773 = .ok (.iaload, 1) := by decide +kernel
theorem dX12_copy_774 : decode cX12_copy 774 = .ok (.iastore, 1) := by decide +kernel
theorem dX12_copy_775 : decode cX12_copy 775 = .ok (.aload_n 0, 1) := by decide +kernel
theorem dX12_copy_776 : decode cX12_copy 776 = .ok (.getfield 136, 3) := by decide +kernel
theorem dX12_copy_779 : decode cX12_copy 779 = .ok (.bipush 60, 2) := by decide +kernel
theorem dX12_copy_781 : decode cX12_copy 781 = .ok (.iload_n 2, 1) := by decide +kernel
theorem dX12_copy_782 : decode cX12_copy 782 = .ok (.imul, 1) := by decide +kernel
theorem dX12_copy_783 : decode cX12_copy 783 = .ok (.iload_n 3, 1) := by decide +kernel
theorem dX12_copy_784 : decode cX12_copy 784 = .ok (.iadd, 1) := by decide +kernel
theorem dX12_copy_785 : decode cX12_copy 785 = .ok (.aload_n 0, 1) := by decide +kernel
theorem dX12_copy_786 : decode cX12_copy 786 = .ok (.getfield 136, 3) := by decide +kernel
theorem dX12_copy_789 : decode cX12_copy 789 = .ok (.bipush 60, 2) := by decide +kernel
theorem dX12_copy_791 : decode cX12_copy 791 = .ok (.iload_n 1, 1) := by decide +kernel
theorem dX12_copy_792 : decode cX12_copy 792 = .ok (.imul, 1) := by decide +kernel
theorem dX12_copy_793 : decode cX12_copy 793 = .ok (.iload_n 3, 1) := by decide +kernel
theorem dX12_copy_794 : decode cX12_copy 794 = .ok (.iadd, 1) := by decide +kernel
theorem dX12_copy_795 : decode cX12_copy 795 = .ok (.iaload, 1) := by decide +kernel
theorem dX12_copy_796 : decode cX12_copy 796 = .ok (.iastore, 1) := by decide +kernel
theorem dX12_copy_797 : decode cX12_copy 797 = .ok (.aload_n 0, 1) := by decide +kernel
theorem dX12_copy_798 : decode cX12_copy 798 = .ok (.getfield 139, 3) := by decide +kernel
theorem dX12_copy_801 : decode cX12_copy 801 = .ok (.bipush 60, 2) := by decide +kernel
theorem dX12_copy_803 : decode cX12_copy 803 = .ok (.iload_n 2, 1) := by decide +kernel
theorem dX12_copy_804 : decode cX12_copy 804 = .ok (.imul, 1) := by decide +kernel
theorem dX12_copy_805 : decode cX12_copy 805 = .ok (.iload_n 3, 1) := by decide +kernel
theorem dX12_copy_806 : decode cX12_copy 806 = .ok (.iadd, 1) := by decide +kernel
theorem dX12_copy_807 : decode cX12_copy 807 = .ok (.aload_n 0, 1) := by decide +kernel
theorem dX12_copy_808 : decode cX12_copy 808 = .ok (.getfield 139, 3) := by decide +kernel
theorem dX12_copy_811 : decode cX12_copy 811 = .ok (.bipush 60, 2) := by decide +kernel
theorem dX12_copy_813 : decode cX12_copy 813 = .ok (.iload_n 1, 1) := by decide +kernel
theorem dX12_copy_814 : decode cX12_copy 814 = .ok (.imul, 1) := by decide +kernel
theorem dX12_copy_815 : decode cX12_copy 815 = .ok (.iload_n 3, 1) := by decide +kernel
theorem dX12_copy_816 : decode cX12_copy 816 = .ok (.iadd, 1) := by decide +kernel
theorem dX12_copy_817 : decode cX12_copy 817 = .ok (.iaload, 1) := by decide +kernel
theorem dX12_copy_818 : decode cX12_copy 818 = .ok (.iastore, 1) := by decide +kernel
theorem dX12_copy_819 : decode cX12_copy 819 = .ok (.iinc 3 1, 3) := by decide +kernel
theorem dX12_copy_822 : decode cX12_copy 822 = .ok (.goto (-97), 3) := by decide +kernel
theorem dX12_copy_825 : decode cX12_copy 825 = .ok (.return_, 1) := by decide +kernel
set_option maxRecDepth 20000 in
theorem ggX12_names_X12_takes : GoodIn wsX12_names wsX12_takes := goodIn_r _ [10, 11, 1, 12, 13, 14, 9, 15, 16, 17, 18, 19, 20, 21, 22, 29, 30, 31, 32, 33, 34, 35, 36, 37, 38, 39, 40, 41, 42, 43, 44, 45, 46, 47, 48, 49, 50, 51, 52, 53, 54, 55, 56, 57, 58, 59, 60, 61, 62, 63, 64, 65, 66, 67, 68, 69, 70, 71, 72, 73, 74, 75, 76, 77, 78, 79, 80, 81, 82, 83, 84, 85, 86, 87, 88, 89, 90, 91, 92, 93, 94, 95, 96, 97, 98, 99, 100, 101, 102, 103, 104, 105, 106, 107, 108, 109] (by decide +kernel) (by decide +kernel)
set_option maxRecDepth 20000 in
theorem gX12_names_X12_takes : GoodIn wsX12_names (wsV RX12 321 RX12 yX12_takes wsX12_takes) := goodIn_app (goodIn_of _ (by decide +kernel)) ggX12_names_X12_takes
set_option maxRecDepth 20000 in
theorem ggX12_names_X12_tells : GoodIn wsX12_names wsX12_tells := goodIn_r _ [26, 21, 27, 28, 29, 30, 31, 32, 33, 34, 35, 36, 37, 38, 39, 40, 41, 42, 43, 44, 45, 46, 47, 48, 49, 50, 51, 52, 53, 54, 55, 56, 57, 58, 59, 60, 61, 62, 63, 64, 65, 66, 67, 68, 69, 70, 71, 72, 73, 74, 75, 76, 77, 78, 79, 80, 81, 82, 83, 84, 85, 86, 87, 88, 89, 90, 91, 92, 93, 94, 95, 96, 97, 98, 99, 100, 101, 102, 103, 104, 105, 106, 107, 108, 109] (by decide +kernel) (by decide +kernel)
set_option maxRecDepth 20000 in
theorem gX12_names_X12_tells : GoodIn wsX12_names (wsV RX12 327 RX12 yX12_tells wsX12_tells) := goodIn_app (goodIn_of _ (by decide +kernel)) ggX12_names_X12_tells
theorem dX12_names_0 : decode cX12_names 0 = .ok (.aload_n 0, 1) := by decide +kernel
theorem dX12_names_1 : decode cX12_names 1 = .ok (.getfield 305, 3) := by decide +kernel
theorem dX12_names_4 : decode cX12_names 4 = .ok (.istore_n 2, 1) := by decide +kernel
theorem dX12_names_5 : decode cX12_names 5 = .ok (.aload_n 0, 1) := by decide +kernel
theorem dX12_names_6 : decode cX12_names 6 = .ok (.iconst 0, 1) := by decide +kernel
theorem dX12_names_7 : decode cX12_names 7 = .ok (.invokevirtual 321, 3) := by decide +kernel
theorem dX12_names_10 : decode cX12_names 10 = .ok (.ifCond .ne 5, 3) := by decide +kernel
theorem dX12_names_13 : decode cX12_names 13 = .ok (.iconst 0, 1) := by decide +kernel
theorem dX12_names_14 : decode cX12_names 14 = .ok (.ireturn, 1) := by decide +kernel
theorem dX12_names_15 : decode cX12_names 15 = .ok (.iconst 0, 1) := by decide +kernel
theorem dX12_names_16 : decode cX12_names 16 = .ok (.istore_n 3, 1) := by decide +kernel
theorem dX12_names_17 : decode cX12_names 17 = .ok (.iload_n 3, 1) := by decide +kernel
theorem dX12_names_18 : decode cX12_names 18 = .ok (.aload_n 0, 1) := by decide +kernel
theorem dX12_names_19 : decode cX12_names 19 = .ok (.getfield 364, 3) := by decide +kernel
theorem dX12_names_22 : decode cX12_names 22 = .ok (.if_icmp .ge 31, 3) := by decide +kernel
theorem dX12_names_25 : decode cX12_names 25 = .ok (.aload_n 0, 1) := by decide +kernel
theorem dX12_names_26 : decode cX12_names 26 = .ok (.getfield 142, 3) := by decide +kernel
theorem dX12_names_29 : decode cX12_names 29 = .ok (.iload_n 3, 1) := by decide +kernel
theorem dX12_names_30 : decode cX12_names 30 = .ok (.laload, 1) := by decide +kernel
theorem dX12_names_31 : decode cX12_names 31 = .ok (.aload_n 0, 1) := by decide +kernel
theorem dX12_names_32 : decode cX12_names 32 = .ok (.getfield 22, 3) := by decide +kernel
theorem dX12_names_35 : decode cX12_names 35 = .ok (.iload_n 2, 1) := by decide +kernel
theorem dX12_names_36 : decode cX12_names 36 = .ok (.laload, 1) := by decide +kernel
theorem dX12_names_37 : decode cX12_names 37 = .ok (.lcmp, 1) := by decide +kernel
theorem dX12_names_38 : decode cX12_names 38 = .ok (.ifCond .ne 9, 3) := by decide +kernel
theorem dX12_names_41 : decode cX12_names 41 = .ok (.aload_n 0, 1) := by decide +kernel
theorem dX12_names_42 : decode cX12_names 42 = .ok (.iconst 3, 1) := by decide +kernel
theorem dX12_names_43 : decode cX12_names 43 = .ok (.iload_n 2, 1) := by decide +kernel
theorem dX12_names_44 : decode cX12_names 44 = .ok (.invokevirtual 327, 3) := by decide +kernel
theorem dX12_names_47 : decode cX12_names 47 = .ok (.iinc 3 1, 3) := by decide +kernel
theorem dX12_names_50 : decode cX12_names 50 = .ok (.goto (-33), 3) := by decide +kernel
theorem dX12_names_53 : decode cX12_names 53 = .ok (.aload_n 0, 1) := by decide +kernel
theorem dX12_names_54 : decode cX12_names 54 = .ok (.getfield 142, 3) := by decide +kernel
theorem dX12_names_57 : decode cX12_names 57 = .ok (.aload_n 0, 1) := by decide +kernel
theorem dX12_names_58 : decode cX12_names 58 = .ok (.getfield 364, 3) := by decide +kernel
theorem dX12_names_61 : decode cX12_names 61 = .ok (.aload_n 0, 1) := by decide +kernel
theorem dX12_names_62 : decode cX12_names 62 = .ok (.getfield 22, 3) := by decide +kernel
theorem dX12_names_65 : decode cX12_names 65 = .ok (.iload_n 2, 1) := by decide +kernel
theorem dX12_names_66 : decode cX12_names 66 = .ok (.laload, 1) := by decide +kernel
theorem dX12_names_67 : decode cX12_names 67 = .ok (.lastore, 1) := by decide +kernel
theorem dX12_names_68 : decode cX12_names 68 = .ok (.aload_n 0, 1) := by decide +kernel
theorem dX12_names_69 : decode cX12_names 69 = .ok (.getfield 145, 3) := by decide +kernel
theorem dX12_names_72 : decode cX12_names 72 = .ok (.aload_n 0, 1) := by decide +kernel
theorem dX12_names_73 : decode cX12_names 73 = .ok (.getfield 364, 3) := by decide +kernel
theorem dX12_names_76 : decode cX12_names 76 = .ok (.iload_n 1, 1) := by decide +kernel
theorem dX12_names_77 : decode cX12_names 77 = .ok (.iastore, 1) := by decide +kernel
theorem dX12_names_78 : decode cX12_names 78 = .ok (.aload_n 0, 1) := by decide +kernel
theorem dX12_names_79 : decode cX12_names 79 = .ok (.dup, 1) := by decide +kernel
theorem dX12_names_80 : decode cX12_names 80 = .ok (.getfield 364, 3) := by decide +kernel
theorem dX12_names_83 : decode cX12_names 83 = .ok (.iconst 1, 1) := by decide +kernel
theorem dX12_names_84 : decode cX12_names 84 = .ok (.iadd, 1) := by decide +kernel
theorem dX12_names_85 : decode cX12_names 85 = .ok (.putfield 364, 3) := by decide +kernel
theorem dX12_names_88 : decode cX12_names 88 = .ok (.iconst 1, 1) := by decide +kernel
theorem dX12_names_89 : decode cX12_names 89 = .ok (.ireturn, 1) := by decide +kernel
set_option maxRecDepth 20000 in
theorem ggX12_thingAt_X12_tells : GoodIn wsX12_thingAt wsX12_tells := goodIn_r _ [9, 10, 11, 12, 13, 14, 15, 16, 17, 18, 19, 20, 21, 22, 23, 24, 25, 26, 27, 28, 29, 30, 31, 32, 33, 34, 35, 36, 37, 38, 39, 40, 41, 42, 43, 44, 45, 46, 47, 48, 49, 50, 51, 52, 53, 54, 55, 56, 57, 58, 59, 60, 61, 62, 63, 64, 65, 66, 67, 68, 69, 70, 71, 72, 73, 74, 75, 76, 77, 78, 79, 80, 81, 82, 83, 84, 85, 86, 87, 88, 89, 90, 91, 92, 93] (by decide +kernel) (by decide +kernel)
set_option maxRecDepth 20000 in
theorem gX12_thingAt_X12_tells : GoodIn wsX12_thingAt (wsV RX12 327 RX12 yX12_tells wsX12_tells) := goodIn_app (goodIn_of _ (by decide +kernel)) ggX12_thingAt_X12_tells
theorem dX12_thingAt_0 : decode cX12_thingAt 0 = .ok (.iconst 0, 1) := by decide +kernel
theorem dX12_thingAt_1 : decode cX12_thingAt 1 = .ok (.istore_n 2, 1) := by decide +kernel
theorem dX12_thingAt_2 : decode cX12_thingAt 2 = .ok (.iload_n 2, 1) := by decide +kernel
theorem dX12_thingAt_3 : decode cX12_thingAt 3 = .ok (.aload_n 0, 1) := by decide +kernel
theorem dX12_thingAt_4 : decode cX12_thingAt 4 = .ok (.getfield 364, 3) := by decide +kernel
theorem dX12_thingAt_7 : decode cX12_thingAt 7 = .ok (.if_icmp .ge 41, 3) := by decide +kernel
theorem dX12_thingAt_10 : decode cX12_thingAt 10 = .ok (.aload_n 0, 1) := by decide +kernel
theorem dX12_thingAt_11 : decode cX12_thingAt 11 = .ok (.getfield 142, 3) := by decide +kernel
theorem dX12_thingAt_14 : decode cX12_thingAt 14 = .ok (.iload_n 2, 1) := by decide +kernel
theorem dX12_thingAt_15 : decode cX12_thingAt 15 = .ok (.laload, 1) := by decide +kernel
theorem dX12_thingAt_16 : decode cX12_thingAt 16 = .ok (.aload_n 0, 1) := by decide +kernel
theorem dX12_thingAt_17 : decode cX12_thingAt 17 = .ok (.getfield 22, 3) := by decide +kernel
theorem dX12_thingAt_20 : decode cX12_thingAt 20 = .ok (.iload_n 1, 1) := by decide +kernel
theorem dX12_thingAt_21 : decode cX12_thingAt 21 = .ok (.laload, 1) := by decide +kernel
theorem dX12_thingAt_22 : decode cX12_thingAt 22 = .ok (.lcmp, 1) := by decide +kernel
theorem dX12_thingAt_23 : decode cX12_thingAt 23 = .ok (.ifCond .ne 19, 3) := by decide +kernel
theorem dX12_thingAt_26 : decode cX12_thingAt 26 = .ok (.aload_n 0, 1) := by decide +kernel
theorem dX12_thingAt_27 : decode cX12_thingAt 27 = .ok (.getfield 145, 3) := by decide +kernel
theorem dX12_thingAt_30 : decode cX12_thingAt 30 = .ok (.iload_n 2, 1) := by decide +kernel
theorem dX12_thingAt_31 : decode cX12_thingAt 31 = .ok (.iaload, 1) := by decide +kernel
theorem dX12_thingAt_32 : decode cX12_thingAt 32 = .ok (.ifCond .lt 10, 3) := by decide +kernel
theorem dX12_thingAt_35 : decode cX12_thingAt 35 = .ok (.aload_n 0, 1) := by decide +kernel
theorem dX12_thingAt_36 : decode cX12_thingAt 36 = .ok (.getfield 145, 3) := by decide +kernel
theorem dX12_thingAt_39 : decode cX12_thingAt 39 = .ok (.iload_n 2, 1) := by decide +kernel
theorem dX12_thingAt_40 : decode cX12_thingAt 40 = .ok (.iaload, 1) := by decide +kernel
theorem dX12_thingAt_41 : decode cX12_thingAt 41 = .ok (.ireturn, 1) := by decide +kernel
theorem dX12_thingAt_42 : decode cX12_thingAt 42 = .ok (.iinc 2 1, 3) := by decide +kernel
theorem dX12_thingAt_45 : decode cX12_thingAt 45 = .ok (.goto (-43), 3) := by decide +kernel
theorem dX12_thingAt_48 : decode cX12_thingAt 48 = .ok (.aload_n 0, 1) := by decide +kernel
theorem dX12_thingAt_49 : decode cX12_thingAt 49 = .ok (.iconst 4, 1) := by decide +kernel
theorem dX12_thingAt_50 : decode cX12_thingAt 50 = .ok (.iload_n 1, 1) := by decide +kernel
theorem dX12_thingAt_51 : decode cX12_thingAt 51 = .ok (.invokevirtual 327, 3) := by decide +kernel
theorem dX12_thingAt_54 : decode cX12_thingAt 54 = .ok (.iconst (-1), 1) := by decide +kernel
theorem dX12_thingAt_55 : decode cX12_thingAt 55 = .ok (.ireturn, 1) := by decide +kernel
set_option maxRecDepth 20000 in
theorem ggX12_tellThing_X12_wrong : GoodIn wsX12_tellThing wsX12_wrong := goodIn_r _ [13, 14, 15, 4, 16, 45, 46, 47, 48, 49, 50, 51, 52, 53, 54, 55, 56, 57, 58, 59, 60, 61, 62, 63, 64, 65, 66, 67, 68, 69, 70, 71, 72, 73, 74, 75, 76, 77, 78, 79, 80, 81, 82, 83, 84, 85, 86, 87, 88, 89, 90, 91, 92, 93, 94, 95, 96, 97, 98, 99, 100, 101, 102, 103, 104, 105, 106, 107, 108, 109, 110, 111, 112, 113, 114, 115, 116, 117, 118, 119, 120, 121, 122, 123, 124, 125] (by decide +kernel) (by decide +kernel)
set_option maxRecDepth 20000 in
theorem gX12_tellThing_X12_wrong : GoodIn wsX12_tellThing (wsV RX12 314 RX12 yX12_wrong wsX12_wrong) := goodIn_app (goodIn_of _ (by decide +kernel)) ggX12_tellThing_X12_wrong
set_option maxRecDepth 20000 in
theorem ggX12_tellThing_X12_pass : GoodIn wsX12_tellThing wsX12_pass := goodIn_r _ [20, 4, 9, 10, 11, 12, 13, 14, 15, 16, 45, 46, 47, 48, 49, 50, 51, 52, 53, 54, 55, 56, 57, 58, 59, 60, 61, 62, 63, 64, 65, 66, 67, 68, 69, 70, 71, 72, 73, 74, 75, 76, 77, 78, 79, 80, 81, 82, 83, 84, 85, 86, 87, 88, 89, 90, 91, 92, 93, 94, 95, 96, 97, 98, 99, 100, 101, 102, 103, 104, 105, 106, 107, 108, 109, 110, 111, 112, 113, 114, 115, 116, 117, 118, 119, 120, 121, 122, 123, 124, 125] (by decide +kernel) (by decide +kernel)
set_option maxRecDepth 20000 in
theorem gX12_tellThing_X12_pass : GoodIn wsX12_tellThing (wsV RX12 317 RX12 yX12_pass wsX12_pass) := goodIn_app (goodIn_of _ (by decide +kernel)) ggX12_tellThing_X12_pass
set_option maxRecDepth 20000 in
theorem ggX12_tellThing_X12_names : GoodIn wsX12_tellThing wsX12_names := goodIn_r _ [24, 4, 25, 26, 27, 28, 29, 30, 31, 12, 32, 33, 17, 18, 19, 20, 9, 10, 11, 13, 14, 15, 16, 34, 35, 36, 37, 38, 39, 45, 46, 47, 48, 49, 50, 51, 52, 53, 54, 55, 56, 57, 58, 59, 60, 61, 62, 63, 64, 65, 66, 67, 68, 69, 70, 71, 72, 73, 74, 75, 76, 77, 78, 79, 80, 81, 82, 83, 84, 85, 86, 87, 88, 89, 90, 91, 92, 93, 94, 95, 96, 97, 98, 99, 100, 101, 102, 103, 104, 105, 106, 107, 108, 109, 110, 111, 112, 113, 114, 115, 116, 117, 118, 119, 120, 121, 122, 123, 124, 125] (by decide +kernel) (by decide +kernel)
set_option maxRecDepth 20000 in
theorem gX12_tellThing_X12_names : GoodIn wsX12_tellThing (wsV RX12 367 RX12 yX12_names wsX12_names) := goodIn_app (goodIn_of _ (by decide +kernel)) ggX12_tellThing_X12_names
set_option maxRecDepth 20000 in
theorem ggX12_tellThing_X12_takesInt : GoodIn wsX12_tellThing wsX12_takesInt := goodIn_r _ [43, 4, 44, 3, 29, 30, 31, 12, 32, 33, 17, 18, 19, 20, 9, 10, 11, 13, 14, 15, 16, 34, 35, 36, 37, 38, 39, 45, 46, 47, 48, 49, 50, 51, 52, 53, 54, 55, 56, 57, 58, 59, 60, 61, 62, 63, 64, 65, 66, 67, 68, 69, 70, 71, 72, 73, 74, 75, 76, 77, 78, 79, 80, 81, 82, 83, 84, 85, 86, 87, 88, 89, 90, 91, 92, 93, 94, 95, 96, 97, 98, 99, 100, 101, 102, 103, 104, 105, 106, 107, 108, 109, 110, 111, 112, 113, 114, 115, 116, 117, 118, 119, 120, 121, 122, 123, 124, 125] (by decide +kernel) (by decide +kernel)
set_option maxRecDepth 20000 in
theorem gX12_tellThing_X12_takesInt : GoodIn wsX12_tellThing (wsV RX12 369 RX12 yX12_takesInt wsX12_takesInt) := goodIn_app (goodIn_of _ (by decide +kernel)) ggX12_tellThing_X12_takesInt
set_option maxRecDepth 20000 in
theorem ggX12_tellThing_X12_tells : GoodIn wsX12_tellThing wsX12_tells := goodIn_r _ [37, 15, 38, 39, 45, 46, 47, 48, 49, 50, 51, 52, 53, 54, 55, 56, 57, 58, 59, 60, 61, 62, 63, 64, 65, 66, 67, 68, 69, 70, 71, 72, 73, 74, 75, 76, 77, 78, 79, 80, 81, 82, 83, 84, 85, 86, 87, 88, 89, 90, 91, 92, 93, 94, 95, 96, 97, 98, 99, 100, 101, 102, 103, 104, 105, 106, 107, 108, 109, 110, 111, 112, 113, 114, 115, 116, 117, 118, 119, 120, 121, 122, 123, 124, 125] (by decide +kernel) (by decide +kernel)
set_option maxRecDepth 20000 in
theorem gX12_tellThing_X12_tells : GoodIn wsX12_tellThing (wsV RX12 327 RX12 yX12_tells wsX12_tells) := goodIn_app (goodIn_of _ (by decide +kernel)) ggX12_tellThing_X12_tells
theorem dX12_tellThing_0 : decode cX12_tellThing 0 = .ok (.aload_n 0, 1) := by decide +kernel
theorem dX12_tellThing_1 : decode cX12_tellThing 1 = .ok (.getfield 37, 3) := by decide +kernel
theorem dX12_tellThing_4 : decode cX12_tellThing 4 = .ok (.iconst 1, 1) := by decide +kernel
theorem dX12_tellThing_5 : decode cX12_tellThing 5 = .ok (.iaload, 1) := by decide +kernel
theorem dX12_tellThing_6 : decode cX12_tellThing 6 = .ok (.bipush 14, 2) := by decide +kernel
theorem dX12_tellThing_8 : decode cX12_tellThing 8 = .ok (.if_icmp .ne 9, 3) := by decide +kernel
theorem dX12_tellThing_11 : decode cX12_tellThing 11 = .ok (.aload_n 0, 1) := by decide +kernel
theorem dX12_tellThing_12 : decode cX12_tellThing 12 = .ok (.iconst 2, 1) := by decide +kernel
theorem dX12_tellThing_13 : decode cX12_tellThing 13 = .ok (.invokevirtual 314, 3) := by decide +kernel
theorem dX12_tellThing_16 : decode cX12_tellThing 16 = .ok (.ireturn, 1) := by decide +kernel
theorem dX12_tellThing_17 : decode cX12_tellThing 17 = .ok (.bipush 14, 2) := by decide +kernel
theorem dX12_tellThing_19 : decode cX12_tellThing 19 = .ok (.aload_n 0, 1) := by decide +kernel
theorem dX12_tellThing_20 : decode cX12_tellThing 20 = .ok (.getfield 37, 3) := by decide +kernel
theorem dX12_tellThing_23 : decode cX12_tellThing 23 = .ok (.iconst 1, 1) := by decide +kernel
theorem dX12_tellThing_24 : decode cX12_tellThing 24 = .ok (.iaload, 1) := by decide +kernel
theorem dX12_tellThing_25 : decode cX12_tellThing 25 = .ok (.iadd, 1) := by decide +kernel
theorem dX12_tellThing_26 : decode cX12_tellThing 26 = .ok (.istore_n 2, 1) := by decide +kernel
theorem dX12_tellThing_27 : decode cX12_tellThing 27 = .ok (.aload_n 0, 1) := by decide +kernel
theorem dX12_tellThing_28 : decode cX12_tellThing 28 = .ok (.invokevirtual 317, 3) := by decide +kernel
theorem dX12_tellThing_31 : decode cX12_tellThing 31 = .ok (.ifCond .eq 16, 3) := by decide +kernel
theorem dX12_tellThing_34 : decode cX12_tellThing 34 = .ok (.aload_n 0, 1) := by decide +kernel
theorem dX12_tellThing_35 : decode cX12_tellThing 35 = .ok (.aload_n 0, 1) := by decide +kernel
theorem dX12_tellThing_36 : decode cX12_tellThing 36 = .ok (.getfield 37, 3) := by decide +kernel
theorem dX12_tellThing_39 : decode cX12_tellThing 39 = .ok (.iconst 1, 1) := by decide +kernel
theorem dX12_tellThing_40 : decode cX12_tellThing 40 = .ok (.iaload, 1) := by decide +kernel
theorem dX12_tellThing_41 : decode cX12_tellThing 41 = .ok (.invokevirtual 367, 3) := by decide +kernel
theorem dX12_tellThing_44 : decode cX12_tellThing 44 = .ok (.ifCond .ne 5, 3) := by decide +kernel
theorem dX12_tellThing_47 : decode cX12_tellThing 47 = .ok (.iconst 0, 1) := by decide +kernel
theorem dX12_tellThing_48 : decode cX12_tellThing 48 = .ok (.ireturn, 1) := by decide +kernel
theorem dX12_tellThing_49 : decode cX12_tellThing 49 = .ok (.aload_n 0, 1) := by decide +kernel
theorem dX12_tellThing_50 : decode cX12_tellThing 50 = .ok (.iconst 0, 1) := by decide +kernel
theorem dX12_tellThing_51 : decode cX12_tellThing 51 = .ok (.sipush 999, 3) := by decide +kernel
theorem dX12_tellThing_54 : decode cX12_tellThing 54 = .ok (.invokevirtual 369, 3) := by decide +kernel
theorem dX12_tellThing_57 : decode cX12_tellThing 57 = .ok (.ifCond .ne 5, 3) := by decide +kernel
theorem dX12_tellThing_60 : decode cX12_tellThing 60 = .ok (.iconst 0, 1) := by decide +kernel
theorem dX12_tellThing_61 : decode cX12_tellThing 61 = .ok (.ireturn, 1) := by decide +kernel
theorem dX12_tellThing_62 : decode cX12_tellThing 62 = .ok (.aload_n 0, 1) := by decide +kernel
theorem dX12_tellThing_63 : decode cX12_tellThing 63 = .ok (.getfield 43, 3) := by decide +kernel
theorem dX12_tellThing_66 : decode cX12_tellThing 66 = .ok (.iload_n 2, 1) := by decide +kernel
theorem dX12_tellThing_67 : decode cX12_tellThing 67 = .ok (.aload_n 0, 1) := by decide +kernel
theorem dX12_tellThing_68 : decode cX12_tellThing 68 = .ok (.getfield 324, 3) := by decide +kernel
theorem dX12_tellThing_71 : decode cX12_tellThing 71 = .ok (.iastore, 1) := by decide +kernel
theorem dX12_tellThing_72 : decode cX12_tellThing 72 = .ok (.aload_n 0, 1) := by decide +kernel
theorem dX12_tellThing_73 : decode cX12_tellThing 73 = .ok (.getfield 305, 3) := by decide +kernel
theorem dX12_tellThing_76 : decode cX12_tellThing 76 = .ok (.istore_n 3, 1) := by decide +kernel
theorem dX12_tellThing_77 : decode cX12_tellThing 77 = .ok (.aload_n 0, 1) := by decide +kernel
theorem dX12_tellThing_78 : decode cX12_tellThing 78 = .ok (.iconst 0, 1) := by decide +kernel
theorem dX12_tellThing_79 : decode cX12_tellThing 79 = .ok (.sipush 999, 3) := by decide +kernel
theorem dX12_tellThing_82 : decode cX12_tellThing 82 = .ok (.invokevirtual 369, 3) := by decide +kernel
theorem dX12_tellThing_85 : decode cX12_tellThing 85 = .ok (.ifCond .ne 5, 3) := by decide +kernel
theorem dX12_tellThing_88 : decode cX12_tellThing 88 = .ok (.iconst 0, 1) := by decide +kernel
theorem dX12_tellThing_89 : decode cX12_tellThing 89 = .ok (.ireturn, 1) := by decide +kernel
theorem dX12_tellThing_90 : decode cX12_tellThing 90 = .ok (.aload_n 0, 1) := by decide +kernel
theorem dX12_tellThing_91 : decode cX12_tellThing 91 = .ok (.getfield 46, 3) := by decide +kernel
theorem dX12_tellThing_94 : decode cX12_tellThing 94 = .ok (.iload_n 2, 1) := by decide +kernel
theorem dX12_tellThing_95 : decode cX12_tellThing 95 = .ok (.aload_n 0, 1) := by decide +kernel
theorem dX12_tellThing_96 : decode cX12_tellThing 96 = .ok (.getfield 324, 3) := by decide +kernel
theorem dX12_tellThing_99 : decode cX12_tellThing 99 = .ok (.iastore, 1) := by decide +kernel
theorem dX12_tellThing_100 : decode cX12_tellThing 100 = .ok (.bipush 14, 2) := by decide +kernel
theorem dX12_tellThing_102 : decode cX12_tellThing 102 = .ok (.istore 4, 2) := by decide +kernel
theorem dX12_tellThing_104 : decode cX12_tellThing 104 = .ok (.iload 4, 2) := by decide +kernel
theorem dX12_tellThing_106 : decode cX12_tellThing 106 = .ok (.iload_n 2, 1) := by decide +kernel
theorem dX12_tellThing_107 : decode cX12_tellThing 107 = .ok (.if_icmp .ge 47, 3) := by decide +kernel
theorem dX12_tellThing_110 : decode cX12_tellThing 110 = .ok (.aload_n 0, 1) := by decide +kernel
theorem dX12_tellThing_111 : decode cX12_tellThing 111 = .ok (.getfield 43, 3) := by decide +kernel
theorem dX12_tellThing_114 : decode cX12_tellThing 114 = .ok (.iload 4, 2) := by decide +kernel
theorem dX12_tellThing_116 : decode cX12_tellThing 116 = .ok (.iaload, 1) := by decide +kernel
theorem dX12_tellThing_117 : decode cX12_tellThing 117 = .ok (.aload_n 0, 1) := by decide +kernel
theorem dX12_tellThing_118 : decode cX12_tellThing 118 = .ok (.getfield 43, 3) := by decide +kernel
theorem dX12_tellThing_121 : decode cX12_tellThing 121 = .ok (.iload_n 2, 1) := by decide +kernel
theorem dX12_tellThing_122 : decode cX12_tellThing 122 = .ok (.iaload, 1) := by decide +kernel
theorem dX12_tellThing_123 : decode cX12_tellThing 123 = .ok (.if_icmp .ne 25, 3) := by decide +kernel
theorem dX12_tellThing_126 : decode cX12_tellThing 126 = .ok (.aload_n 0, 1) := by decide +kernel
theorem dX12_tellThing_127 : decode cX12_tellThing 127 = .ok (.getfield 46, 3) := by decide +kernel
theorem dX12_tellThing_130 : decode cX12_tellThing 130 = .ok (.iload 4, 2) := by decide +kernel
theorem dX12_tellThing_132 : decode cX12_tellThing 132 = .ok (.iaload, 1) := by decide +kernel
theorem dX12_tellThing_133 : decode cX12_tellThing 133 = .ok (.aload_n 0, 1) := by decide +kernel
theorem dX12_tellThing_134 : decode cX12_tellThing 134 = .ok (.getfield 46, 3) := by decide +kernel
theorem dX12_tellThing_137 : decode cX12_tellThing 137 = .ok (.iload_n 2, 1) := by decide +kernel
theorem dX12_tellThing_138 : decode cX12_tellThing 138 = .ok (.iaload, 1) := by decide +kernel
theorem dX12_tellThing_139 : decode cX12_tellThing 139 = .ok (.if_icmp .ne 9, 3) := by decide +kernel
theorem dX12_tellThing_142 : decode cX12_tellThing 142 = .ok (.aload_n 0, 1) := by decide +kernel
theorem dX12_tellThing_143 : decode cX12_tellThing 143 = .ok (.iconst 3, 1) := by decide +kernel
theorem dX12_tellThing_144 : decode cX12_tellThing 144 = .ok (.iload_n 3, 1) := by decide +kernel
theorem dX12_tellThing_145 : decode cX12_tellThing 145 = .ok (.invokevirtual 327, 3) := by decide +kernel
theorem dX12_tellThing_148 : decode cX12_tellThing 148 = .ok (.iinc 4 1, 3) := by decide +kernel
theorem dX12_tellThing_151 : decode cX12_tellThing 151 = .ok (.goto (-47), 3) := by decide +kernel
theorem dX12_tellThing_154 : decode cX12_tellThing 154 = .ok (.aload_n 0, 1) := by decide +kernel
theorem dX12_tellThing_155 : decode cX12_tellThing 155 = .ok (.iconst 0, 1) := by decide +kernel
theorem dX12_tellThing_156 : decode cX12_tellThing 156 = .ok (.sipush 9999, 3) := by decide +kernel
theorem dX12_tellThing_159 : decode cX12_tellThing 159 = .ok (.invokevirtual 369, 3) := by decide +kernel
theorem dX12_tellThing_162 : decode cX12_tellThing 162 = .ok (.ifCond .ne 5, 3) := by decide +kernel
theorem dX12_tellThing_165 : decode cX12_tellThing 165 = .ok (.iconst 0, 1) := by decide +kernel
theorem dX12_tellThing_166 : decode cX12_tellThing 166 = .ok (.ireturn, 1) := by decide +kernel
theorem dX12_tellThing_167 : decode cX12_tellThing 167 = .ok (.aload_n 0, 1) := by decide +kernel
theorem dX12_tellThing_168 : decode cX12_tellThing 168 = .ok (.getfield 49, 3) := by decide +kernel
theorem dX12_tellThing_171 : decode cX12_tellThing 171 = .ok (.iload_n 2, 1) := by decide +kernel
theorem dX12_tellThing_172 : decode cX12_tellThing 172 = .ok (.aload_n 0, 1) := by decide +kernel
theorem dX12_tellThing_173 : decode cX12_tellThing 173 = .ok (.getfield 324, 3) := by decide +kernel
theorem dX12_tellThing_176 : decode cX12_tellThing 176 = .ok (.iastore, 1) := by decide +kernel
theorem dX12_tellThing_177 : decode cX12_tellThing 177 = .ok (.aload_n 0, 1) := by decide +kernel
theorem dX12_tellThing_178 : decode cX12_tellThing 178 = .ok (.getfield 40, 3) := by decide +kernel
theorem dX12_tellThing_181 : decode cX12_tellThing 181 = .ok (.iload_n 2, 1) := by decide +kernel
theorem dX12_tellThing_182 : decode cX12_tellThing 182 = .ok (.iload_n 1, 1) := by decide +kernel
theorem dX12_tellThing_183 : decode cX12_tellThing 183 = .ok (.bastore, 1) := by decide +kernel
theorem dX12_tellThing_184 : decode cX12_tellThing 184 = .ok (.aload_n 0, 1) := by decide +kernel
theorem dX12_tellThing_185 : decode cX12_tellThing 185 = .ok (.getfield 52, 3) := by decide +kernel
theorem dX12_tellThing_188 : decode cX12_tellThing 188 = .ok (.iload_n 2, 1) := by decide +kernel
theorem dX12_tellThing_189 : decode cX12_tellThing 189 = .ok (.iconst (-1), 1) := by decide +kernel
theorem dX12_tellThing_190 : decode cX12_tellThing 190 = .ok (.iastore, 1) := by decide +kernel
theorem dX12_tellThing_191 : decode cX12_tellThing 191 = .ok (.aload_n 0, 1) := by decide +kernel
theorem dX12_tellThing_192 : decode cX12_tellThing 192 = .ok (.getfield 37, 3) := by decide +kernel
theorem dX12_tellThing_195 : decode cX12_tellThing 195 = .ok (.iconst 1, 1) := by decide +kernel
theorem dX12_tellThing_196 : decode cX12_tellThing 196 = .ok (.dup2, 1) := by decide +kernel
theorem dX12_tellThing_197 : decode cX12_tellThing 197 = .ok (.iaload, 1) := by decide +kernel
theorem dX12_tellThing_198 : decode cX12_tellThing 198 = .ok (.iconst 1, 1) := by decide +kernel
theorem dX12_tellThing_199 : decode cX12_tellThing 199 = .ok (.iadd, 1) := by decide +kernel
theorem dX12_tellThing_200 : decode cX12_tellThing 200 = .ok (.iastore, 1) := by decide +kernel
theorem dX12_tellThing_201 : decode cX12_tellThing 201 = .ok (.iconst 1, 1) := by decide +kernel
theorem dX12_tellThing_202 : decode cX12_tellThing 202 = .ok (.ireturn, 1) := by decide +kernel
set_option maxRecDepth 20000 in
theorem ggX12_tellDoor_X12_wrong : GoodIn wsX12_tellDoor wsX12_wrong := goodIn_r _ [10, 11, 12, 2, 13, 36, 37, 38, 39, 40, 41, 42, 43, 44, 45, 46, 47, 48, 49, 50, 51, 52, 53, 54, 55, 56, 57, 58, 59, 60, 61, 62, 63, 64, 65, 66, 67, 68, 69, 70, 71, 72, 73, 74, 75, 76, 77, 78, 79, 80, 81, 82, 83, 84, 85, 86, 87, 88, 89, 90, 91, 92, 93, 94, 95, 96, 97, 98, 99, 100, 101, 102, 103, 104, 105, 106, 107, 108, 109, 110, 111, 112, 113, 114, 115, 116] (by decide +kernel) (by decide +kernel)
set_option maxRecDepth 20000 in
theorem gX12_tellDoor_X12_wrong : GoodIn wsX12_tellDoor (wsV RX12 314 RX12 yX12_wrong wsX12_wrong) := goodIn_app (goodIn_of _ (by decide +kernel)) ggX12_tellDoor_X12_wrong
set_option maxRecDepth 20000 in
theorem ggX12_tellDoor_X12_pass : GoodIn wsX12_tellDoor wsX12_pass := goodIn_r _ [17, 2, 6, 7, 8, 9, 10, 11, 12, 13, 36, 37, 38, 39, 40, 41, 42, 43, 44, 45, 46, 47, 48, 49, 50, 51, 52, 53, 54, 55, 56, 57, 58, 59, 60, 61, 62, 63, 64, 65, 66, 67, 68, 69, 70, 71, 72, 73, 74, 75, 76, 77, 78, 79, 80, 81, 82, 83, 84, 85, 86, 87, 88, 89, 90, 91, 92, 93, 94, 95, 96, 97, 98, 99, 100, 101, 102, 103, 104, 105, 106, 107, 108, 109, 110, 111, 112, 113, 114, 115, 116] (by decide +kernel) (by decide +kernel)
set_option maxRecDepth 20000 in
theorem gX12_tellDoor_X12_pass : GoodIn wsX12_tellDoor (wsV RX12 317 RX12 yX12_pass wsX12_pass) := goodIn_app (goodIn_of _ (by decide +kernel)) ggX12_tellDoor_X12_pass
set_option maxRecDepth 20000 in
theorem ggX12_tellDoor_X12_takes : GoodIn wsX12_tellDoor wsX12_takes := goodIn_r _ [21, 22, 2, 14, 15, 16, 9, 17, 6, 7, 8, 10, 11, 12, 13, 36, 37, 38, 39, 40, 41, 42, 43, 44, 45, 46, 47, 48, 49, 50, 51, 52, 53, 54, 55, 56, 57, 58, 59, 60, 61, 62, 63, 64, 65, 66, 67, 68, 69, 70, 71, 72, 73, 74, 75, 76, 77, 78, 79, 80, 81, 82, 83, 84, 85, 86, 87, 88, 89, 90, 91, 92, 93, 94, 95, 96, 97, 98, 99, 100, 101, 102, 103, 104, 105, 106, 107, 108, 109, 110, 111, 112, 113, 114, 115, 116] (by decide +kernel) (by decide +kernel)
set_option maxRecDepth 20000 in
theorem gX12_tellDoor_X12_takes : GoodIn wsX12_tellDoor (wsV RX12 321 RX12 yX12_takes wsX12_takes) := goodIn_app (goodIn_of _ (by decide +kernel)) ggX12_tellDoor_X12_takes
set_option maxRecDepth 20000 in
theorem ggX12_tellDoor_X12_thingAt : GoodIn wsX12_tellDoor wsX12_thingAt := goodIn_r _ [26, 27, 28, 5, 29, 30, 31, 32, 9, 33, 12, 34, 35, 36, 37, 38, 39, 40, 41, 42, 43, 44, 45, 46, 47, 48, 49, 50, 51, 52, 53, 54, 55, 56, 57, 58, 59, 60, 61, 62, 63, 64, 65, 66, 67, 68, 69, 70, 71, 72, 73, 74, 75, 76, 77, 78, 79, 80, 81, 82, 83, 84, 85, 86, 87, 88, 89, 90, 91, 92, 93, 94, 95, 96, 97, 98, 99, 100, 101, 102, 103, 104, 105, 106, 107, 108, 109, 110, 111, 112, 113, 114, 115, 116] (by decide +kernel) (by decide +kernel)
set_option maxRecDepth 20000 in
theorem gX12_tellDoor_X12_thingAt : GoodIn wsX12_tellDoor (wsV RX12 373 RX12 yX12_thingAt wsX12_thingAt) := goodIn_app (goodIn_of _ (by decide +kernel)) ggX12_tellDoor_X12_thingAt
set_option maxRecDepth 20000 in
theorem ggX12_tellDoor_X12_tells : GoodIn wsX12_tellDoor wsX12_tells := goodIn_r _ [33, 12, 34, 35, 36, 37, 38, 39, 40, 41, 42, 43, 44, 45, 46, 47, 48, 49, 50, 51, 52, 53, 54, 55, 56, 57, 58, 59, 60, 61, 62, 63, 64, 65, 66, 67, 68, 69, 70, 71, 72, 73, 74, 75, 76, 77, 78, 79, 80, 81, 82, 83, 84, 85, 86, 87, 88, 89, 90, 91, 92, 93, 94, 95, 96, 97, 98, 99, 100, 101, 102, 103, 104, 105, 106, 107, 108, 109, 110, 111, 112, 113, 114, 115, 116] (by decide +kernel) (by decide +kernel)
set_option maxRecDepth 20000 in
theorem gX12_tellDoor_X12_tells : GoodIn wsX12_tellDoor (wsV RX12 327 RX12 yX12_tells wsX12_tells) := goodIn_app (goodIn_of _ (by decide +kernel)) ggX12_tellDoor_X12_tells
theorem dX12_tellDoor_0 : decode cX12_tellDoor 0 = .ok (.aload_n 0, 1) := by decide +kernel
theorem dX12_tellDoor_1 : decode cX12_tellDoor 1 = .ok (.getfield 55, 3) := by decide +kernel
theorem dX12_tellDoor_4 : decode cX12_tellDoor 4 = .ok (.iconst 1, 1) := by decide +kernel
theorem dX12_tellDoor_5 : decode cX12_tellDoor 5 = .ok (.iaload, 1) := by decide +kernel
theorem dX12_tellDoor_6 : decode cX12_tellDoor 6 = .ok (.bipush 8, 2) := by decide +kernel
theorem dX12_tellDoor_8 : decode cX12_tellDoor 8 = .ok (.if_icmp .ne 9, 3) := by decide +kernel
theorem dX12_tellDoor_11 : decode cX12_tellDoor 11 = .ok (.aload_n 0, 1) := by decide +kernel
theorem dX12_tellDoor_12 : decode cX12_tellDoor 12 = .ok (.iconst 2, 1) := by decide +kernel
theorem dX12_tellDoor_13 : decode cX12_tellDoor 13 = .ok (.invokevirtual 314, 3) := by decide +kernel
theorem dX12_tellDoor_16 : decode cX12_tellDoor 16 = .ok (.ireturn, 1) := by decide +kernel
theorem dX12_tellDoor_17 : decode cX12_tellDoor 17 = .ok (.aload_n 0, 1) := by decide +kernel
theorem dX12_tellDoor_18 : decode cX12_tellDoor 18 = .ok (.getfield 305, 3) := by decide +kernel
theorem dX12_tellDoor_21 : decode cX12_tellDoor 21 = .ok (.iconst 1, 1) := by decide +kernel
theorem dX12_tellDoor_22 : decode cX12_tellDoor 22 = .ok (.iadd, 1) := by decide +kernel
theorem dX12_tellDoor_23 : decode cX12_tellDoor 23 = .ok (.istore_n 1, 1) := by decide +kernel
theorem dX12_tellDoor_24 : decode cX12_tellDoor 24 = .ok (.aload_n 0, 1) := by decide +kernel
theorem dX12_tellDoor_25 : decode cX12_tellDoor 25 = .ok (.invokevirtual 317, 3) := by decide +kernel
theorem dX12_tellDoor_28 : decode cX12_tellDoor 28 = .ok (.ifCond .eq 19, 3) := by decide +kernel
theorem dX12_tellDoor_31 : decode cX12_tellDoor 31 = .ok (.aload_n 0, 1) := by decide +kernel
theorem dX12_tellDoor_32 : decode cX12_tellDoor 32 = .ok (.iconst 0, 1) := by decide +kernel
theorem dX12_tellDoor_33 : decode cX12_tellDoor 33 = .ok (.invokevirtual 321, 3) := by decide +kernel
theorem dX12_tellDoor_36 : decode cX12_tellDoor 36 = .ok (.ifCond .eq 11, 3) := by decide +kernel
theorem dX12_tellDoor_39 : decode cX12_tellDoor 39 = .ok (.aload_n 0, 1) := by decide +kernel
theorem dX12_tellDoor_40 : decode cX12_tellDoor 40 = .ok (.iconst 0, 1) := by decide +kernel
theorem dX12_tellDoor_41 : decode cX12_tellDoor 41 = .ok (.invokevirtual 321, 3) := by decide +kernel
theorem dX12_tellDoor_44 : decode cX12_tellDoor 44 = .ok (.ifCond .ne 5, 3) := by decide +kernel
theorem dX12_tellDoor_47 : decode cX12_tellDoor 47 = .ok (.iconst 0, 1) := by decide +kernel
theorem dX12_tellDoor_48 : decode cX12_tellDoor 48 = .ok (.ireturn, 1) := by decide +kernel
theorem dX12_tellDoor_49 : decode cX12_tellDoor 49 = .ok (.bipush 8, 2) := by decide +kernel
theorem dX12_tellDoor_51 : decode cX12_tellDoor 51 = .ok (.aload_n 0, 1) := by decide +kernel
theorem dX12_tellDoor_52 : decode cX12_tellDoor 52 = .ok (.getfield 55, 3) := by decide +kernel
theorem dX12_tellDoor_55 : decode cX12_tellDoor 55 = .ok (.iconst 1, 1) := by decide +kernel
theorem dX12_tellDoor_56 : decode cX12_tellDoor 56 = .ok (.iaload, 1) := by decide +kernel
theorem dX12_tellDoor_57 : decode cX12_tellDoor 57 = .ok (.iadd, 1) := by decide +kernel
theorem dX12_tellDoor_58 : decode cX12_tellDoor 58 = .ok (.istore_n 2, 1) := by decide +kernel
theorem dX12_tellDoor_59 : decode cX12_tellDoor 59 = .ok (.aload_n 0, 1) := by decide +kernel
theorem dX12_tellDoor_60 : decode cX12_tellDoor 60 = .ok (.getfield 58, 3) := by decide +kernel
theorem dX12_tellDoor_63 : decode cX12_tellDoor 63 = .ok (.iload_n 2, 1) := by decide +kernel
theorem dX12_tellDoor_64 : decode cX12_tellDoor 64 = .ok (.aload_n 0, 1) := by decide +kernel
theorem dX12_tellDoor_65 : decode cX12_tellDoor 65 = .ok (.iload_n 1, 1) := by decide +kernel
theorem dX12_tellDoor_66 : decode cX12_tellDoor 66 = .ok (.invokevirtual 373, 3) := by decide +kernel
theorem dX12_tellDoor_69 : decode cX12_tellDoor 69 = .ok (.iastore, 1) := by decide +kernel
theorem dX12_tellDoor_70 : decode cX12_tellDoor 70 = .ok (.aload_n 0, 1) := by decide +kernel
theorem dX12_tellDoor_71 : decode cX12_tellDoor 71 = .ok (.getfield 61, 3) := by decide +kernel
theorem dX12_tellDoor_74 : decode cX12_tellDoor 74 = .ok (.iload_n 2, 1) := by decide +kernel
theorem dX12_tellDoor_75 : decode cX12_tellDoor 75 = .ok (.aload_n 0, 1) := by decide +kernel
theorem dX12_tellDoor_76 : decode cX12_tellDoor 76 = .ok (.iload_n 1, 1) := by decide +kernel
theorem dX12_tellDoor_77 : decode cX12_tellDoor 77 = .ok (.iconst 1, 1) := by decide +kernel
theorem dX12_tellDoor_78 : decode cX12_tellDoor 78 = .ok (.iadd, 1) := by decide +kernel
theorem dX12_tellDoor_79 : decode cX12_tellDoor 79 = .ok (.invokevirtual 373, 3) := by decide +kernel
theorem dX12_tellDoor_82 : decode cX12_tellDoor 82 = .ok (.iastore, 1) := by decide +kernel
theorem dX12_tellDoor_83 : decode cX12_tellDoor 83 = .ok (.aload_n 0, 1) := by decide +kernel
theorem dX12_tellDoor_84 : decode cX12_tellDoor 84 = .ok (.getfield 58, 3) := by decide +kernel
theorem dX12_tellDoor_87 : decode cX12_tellDoor 87 = .ok (.iload_n 2, 1) := by decide +kernel
theorem dX12_tellDoor_88 : decode cX12_tellDoor 88 = .ok (.iaload, 1) := by decide +kernel
theorem dX12_tellDoor_89 : decode cX12_tellDoor 89 = .ok (.ifCond .lt 29, 3) := by decide +kernel
theorem dX12_tellDoor_92 : decode cX12_tellDoor 92 = .ok (.aload_n 0, 1) := by decide +kernel
theorem dX12_tellDoor_93 : decode cX12_tellDoor 93 = .ok (.getfield 22, 3) := by decide +kernel
theorem dX12_tellDoor_96 : decode cX12_tellDoor 96 = .ok (.iload_n 1, 1) := by decide +kernel
theorem dX12_tellDoor_97 : decode cX12_tellDoor 97 = .ok (.laload, 1) := by decide +kernel
theorem dX12_tellDoor_98 : decode cX12_tellDoor 98 = .ok (.aload_n 0, 1) := by decide +kernel
theorem dX12_tellDoor_99 : decode cX12_tellDoor 99 = .ok (.getfield 22, 3) := by decide +kernel
theorem dX12_tellDoor_102 : decode cX12_tellDoor 102 = .ok (.iload_n 1, 1) := by decide +kernel
theorem dX12_tellDoor_103 : decode cX12_tellDoor 103 = .ok (.iconst 1, 1) := by decide +kernel
theorem dX12_tellDoor_104 : decode cX12_tellDoor 104 = .ok (.iadd, 1) := by decide +kernel
theorem dX12_tellDoor_105 : decode cX12_tellDoor 105 = .ok (.laload, 1) := by decide +kernel
theorem dX12_tellDoor_106 : decode cX12_tellDoor 106 = .ok (.lcmp, 1) := by decide +kernel
theorem dX12_tellDoor_107 : decode cX12_tellDoor 107 = .ok (.ifCond .ne 11, 3) := by decide +kernel
theorem dX12_tellDoor_110 : decode cX12_tellDoor 110 = .ok (.aload_n 0, 1) := by decide +kernel
theorem dX12_tellDoor_111 : decode cX12_tellDoor 111 = .ok (.iconst 5, 1) := by decide +kernel
theorem dX12_tellDoor_112 : decode cX12_tellDoor 112 = .ok (.iload_n 1, 1) := by decide +kernel
theorem dX12_tellDoor_113 : decode cX12_tellDoor 113 = .ok (.iconst 1, 1) := by decide +kernel
theorem dX12_tellDoor_114 : decode cX12_tellDoor 114 = .ok (.iadd, 1) := by decide +kernel
theorem dX12_tellDoor_115 : decode cX12_tellDoor 115 = .ok (.invokevirtual 327, 3) := by decide +kernel
theorem dX12_tellDoor_118 : decode cX12_tellDoor 118 = .ok (.aload_n 0, 1) := by decide +kernel
theorem dX12_tellDoor_119 : decode cX12_tellDoor 119 = .ok (.getfield 55, 3) := by decide +kernel
theorem dX12_tellDoor_122 : decode cX12_tellDoor 122 = .ok (.iconst 1, 1) := by decide +kernel
theorem dX12_tellDoor_123 : decode cX12_tellDoor 123 = .ok (.dup2, 1) := by decide +kernel
theorem dX12_tellDoor_124 : decode cX12_tellDoor 124 = .ok (.iaload, 1) := by decide +kernel
theorem dX12_tellDoor_125 : decode cX12_tellDoor 125 = .ok (.iconst 1, 1) := by decide +kernel
theorem dX12_tellDoor_126 : decode cX12_tellDoor 126 = .ok (.iadd, 1) := by decide +kernel
theorem dX12_tellDoor_127 : decode cX12_tellDoor 127 = .ok (.iastore, 1) := by decide +kernel
theorem dX12_tellDoor_128 : decode cX12_tellDoor 128 = .ok (.iconst 1, 1) := by decide +kernel
theorem dX12_tellDoor_129 : decode cX12_tellDoor 129 = .ok (.ireturn, 1) := by decide +kernel
set_option maxRecDepth 20000 in
theorem ggX12_tellHill_X12_wrong : GoodIn wsX12_tellHill wsX12_wrong := goodIn_r _ [10, 11, 12, 13, 14, 35, 36, 37, 38, 39, 40, 41, 42, 43, 44, 45, 46, 47, 48, 49, 50, 51, 52, 53, 54, 55, 56, 57, 58, 59, 60, 61, 62, 63, 64, 65, 66, 67, 68, 69, 70, 71, 72, 73, 74, 75, 76, 77, 78, 79, 80, 81, 82, 83, 84, 85, 86, 87, 88, 89, 90, 91, 92, 93, 94, 95, 96, 97, 98, 99, 100, 101, 102, 103, 104, 105, 106, 107, 108, 109, 110, 111, 112, 113, 114, 115] (by decide +kernel) (by decide +kernel)
set_option maxRecDepth 20000 in
theorem gX12_tellHill_X12_wrong : GoodIn wsX12_tellHill (wsV RX12 314 RX12 yX12_wrong wsX12_wrong) := goodIn_app (goodIn_of _ (by decide +kernel)) ggX12_tellHill_X12_wrong
set_option maxRecDepth 20000 in
theorem ggX12_tellHill_X12_pass : GoodIn wsX12_tellHill wsX12_pass := goodIn_r _ [18, 13, 6, 7, 8, 9, 10, 11, 12, 14, 35, 36, 37, 38, 39, 40, 41, 42, 43, 44, 45, 46, 47, 48, 49, 50, 51, 52, 53, 54, 55, 56, 57, 58, 59, 60, 61, 62, 63, 64, 65, 66, 67, 68, 69, 70, 71, 72, 73, 74, 75, 76, 77, 78, 79, 80, 81, 82, 83, 84, 85, 86, 87, 88, 89, 90, 91, 92, 93, 94, 95, 96, 97, 98, 99, 100, 101, 102, 103, 104, 105, 106, 107, 108, 109, 110, 111, 112, 113, 114, 115] (by decide +kernel) (by decide +kernel)
set_option maxRecDepth 20000 in
theorem gX12_tellHill_X12_pass : GoodIn wsX12_tellHill (wsV RX12 317 RX12 yX12_pass wsX12_pass) := goodIn_app (goodIn_of _ (by decide +kernel)) ggX12_tellHill_X12_pass
set_option maxRecDepth 20000 in
theorem ggX12_tellHill_X12_takesInt : GoodIn wsX12_tellHill wsX12_takesInt := goodIn_r _ [22, 13, 23, 3, 24, 25, 26, 9, 27, 28, 15, 16, 17, 18, 6, 7, 8, 10, 11, 12, 14, 29, 30, 31, 32, 33, 34, 35, 36, 37, 38, 39, 40, 41, 42, 43, 44, 45, 46, 47, 48, 49, 50, 51, 52, 53, 54, 55, 56, 57, 58, 59, 60, 61, 62, 63, 64, 65, 66, 67, 68, 69, 70, 71, 72, 73, 74, 75, 76, 77, 78, 79, 80, 81, 82, 83, 84, 85, 86, 87, 88, 89, 90, 91, 92, 93, 94, 95, 96, 97, 98, 99, 100, 101, 102, 103, 104, 105, 106, 107, 108, 109, 110, 111, 112, 113, 114, 115] (by decide +kernel) (by decide +kernel)
set_option maxRecDepth 20000 in
theorem gX12_tellHill_X12_takesInt : GoodIn wsX12_tellHill (wsV RX12 369 RX12 yX12_takesInt wsX12_takesInt) := goodIn_app (goodIn_of _ (by decide +kernel)) ggX12_tellHill_X12_takesInt
theorem dX12_tellHill_0 : decode cX12_tellHill 0 = .ok (.aload_n 0, 1) := by decide +kernel
theorem dX12_tellHill_1 : decode cX12_tellHill 1 = .ok (.getfield 64, 3) := by decide +kernel
theorem dX12_tellHill_4 : decode cX12_tellHill 4 = .ok (.iconst 1, 1) := by decide +kernel
theorem dX12_tellHill_5 : decode cX12_tellHill 5 = .ok (.iaload, 1) := by decide +kernel
theorem dX12_tellHill_6 : decode cX12_tellHill 6 = .ok (.bipush 12, 2) := by decide +kernel
theorem dX12_tellHill_8 : decode cX12_tellHill 8 = .ok (.if_icmp .ne 9, 3) := by decide +kernel
theorem dX12_tellHill_11 : decode cX12_tellHill 11 = .ok (.aload_n 0, 1) := by decide +kernel
theorem dX12_tellHill_12 : decode cX12_tellHill 12 = .ok (.iconst 2, 1) := by decide +kernel
theorem dX12_tellHill_13 : decode cX12_tellHill 13 = .ok (.invokevirtual 314, 3) := by decide +kernel
theorem dX12_tellHill_16 : decode cX12_tellHill 16 = .ok (.ireturn, 1) := by decide +kernel
theorem dX12_tellHill_17 : decode cX12_tellHill 17 = .ok (.bipush 12, 2) := by decide +kernel
theorem dX12_tellHill_19 : decode cX12_tellHill 19 = .ok (.aload_n 0, 1) := by decide +kernel
theorem dX12_tellHill_20 : decode cX12_tellHill 20 = .ok (.getfield 64, 3) := by decide +kernel
theorem dX12_tellHill_23 : decode cX12_tellHill 23 = .ok (.iconst 1, 1) := by decide +kernel
theorem dX12_tellHill_24 : decode cX12_tellHill 24 = .ok (.iaload, 1) := by decide +kernel
theorem dX12_tellHill_25 : decode cX12_tellHill 25 = .ok (.iadd, 1) := by decide +kernel
theorem dX12_tellHill_26 : decode cX12_tellHill 26 = .ok (.istore_n 1, 1) := by decide +kernel
theorem dX12_tellHill_27 : decode cX12_tellHill 27 = .ok (.aload_n 0, 1) := by decide +kernel
theorem dX12_tellHill_28 : decode cX12_tellHill 28 = .ok (.invokevirtual 317, 3) := by decide +kernel
theorem dX12_tellHill_31 : decode cX12_tellHill 31 = .ok (.ifCond .eq 14, 3) := by decide +kernel
theorem dX12_tellHill_34 : decode cX12_tellHill 34 = .ok (.aload_n 0, 1) := by decide +kernel
theorem dX12_tellHill_35 : decode cX12_tellHill 35 = .ok (.iconst 0, 1) := by decide +kernel
theorem dX12_tellHill_36 : decode cX12_tellHill 36 = .ok (.sipush 359, 3) := by decide +kernel
theorem dX12_tellHill_39 : decode cX12_tellHill 39 = .ok (.invokevirtual 369, 3) := by decide +kernel
theorem dX12_tellHill_42 : decode cX12_tellHill 42 = .ok (.ifCond .ne 5, 3) := by decide +kernel
theorem dX12_tellHill_45 : decode cX12_tellHill 45 = .ok (.iconst 0, 1) := by decide +kernel
theorem dX12_tellHill_46 : decode cX12_tellHill 46 = .ok (.ireturn, 1) := by decide +kernel
theorem dX12_tellHill_47 : decode cX12_tellHill 47 = .ok (.aload_n 0, 1) := by decide +kernel
theorem dX12_tellHill_48 : decode cX12_tellHill 48 = .ok (.getfield 67, 3) := by decide +kernel
theorem dX12_tellHill_51 : decode cX12_tellHill 51 = .ok (.iload_n 1, 1) := by decide +kernel
theorem dX12_tellHill_52 : decode cX12_tellHill 52 = .ok (.aload_n 0, 1) := by decide +kernel
theorem dX12_tellHill_53 : decode cX12_tellHill 53 = .ok (.getfield 324, 3) := by decide +kernel
theorem dX12_tellHill_56 : decode cX12_tellHill 56 = .ok (.iastore, 1) := by decide +kernel
theorem dX12_tellHill_57 : decode cX12_tellHill 57 = .ok (.aload_n 0, 1) := by decide +kernel
theorem dX12_tellHill_58 : decode cX12_tellHill 58 = .ok (.iconst 0, 1) := by decide +kernel
theorem dX12_tellHill_59 : decode cX12_tellHill 59 = .ok (.sipush 359, 3) := by decide +kernel
theorem dX12_tellHill_62 : decode cX12_tellHill 62 = .ok (.invokevirtual 369, 3) := by decide +kernel
theorem dX12_tellHill_65 : decode cX12_tellHill 65 = .ok (.ifCond .ne 5, 3) := by decide +kernel
theorem dX12_tellHill_68 : decode cX12_tellHill 68 = .ok (.iconst 0, 1) := by decide +kernel
theorem dX12_tellHill_69 : decode cX12_tellHill 69 = .ok (.ireturn, 1) := by decide +kernel
theorem dX12_tellHill_70 : decode cX12_tellHill 70 = .ok (.aload_n 0, 1) := by decide +kernel
theorem dX12_tellHill_71 : decode cX12_tellHill 71 = .ok (.getfield 70, 3) := by decide +kernel
theorem dX12_tellHill_74 : decode cX12_tellHill 74 = .ok (.iload_n 1, 1) := by decide +kernel
theorem dX12_tellHill_75 : decode cX12_tellHill 75 = .ok (.aload_n 0, 1) := by decide +kernel
theorem dX12_tellHill_76 : decode cX12_tellHill 76 = .ok (.getfield 324, 3) := by decide +kernel
theorem dX12_tellHill_79 : decode cX12_tellHill 79 = .ok (.iastore, 1) := by decide +kernel
theorem dX12_tellHill_80 : decode cX12_tellHill 80 = .ok (.aload_n 0, 1) := by decide +kernel
theorem dX12_tellHill_81 : decode cX12_tellHill 81 = .ok (.iconst 0, 1) := by decide +kernel
theorem dX12_tellHill_82 : decode cX12_tellHill 82 = .ok (.bipush 20, 2) := by decide +kernel
theorem dX12_tellHill_84 : decode cX12_tellHill 84 = .ok (.invokevirtual 369, 3) := by decide +kernel
theorem dX12_tellHill_87 : decode cX12_tellHill 87 = .ok (.ifCond .ne 5, 3) := by decide +kernel
theorem dX12_tellHill_90 : decode cX12_tellHill 90 = .ok (.iconst 0, 1) := by decide +kernel
theorem dX12_tellHill_91 : decode cX12_tellHill 91 = .ok (.ireturn, 1) := by decide +kernel
theorem dX12_tellHill_92 : decode cX12_tellHill 92 = .ok (.aload_n 0, 1) := by decide +kernel
theorem dX12_tellHill_93 : decode cX12_tellHill 93 = .ok (.getfield 73, 3) := by decide +kernel
theorem dX12_tellHill_96 : decode cX12_tellHill 96 = .ok (.iload_n 1, 1) := by decide +kernel
theorem dX12_tellHill_97 : decode cX12_tellHill 97 = .ok (.aload_n 0, 1) := by decide +kernel
theorem dX12_tellHill_98 : decode cX12_tellHill 98 = .ok (.getfield 324, 3) := by decide +kernel
theorem dX12_tellHill_101 : decode cX12_tellHill 101 = .ok (.iastore, 1) := by decide +kernel
theorem dX12_tellHill_102 : decode cX12_tellHill 102 = .ok (.aload_n 0, 1) := by decide +kernel
theorem dX12_tellHill_103 : decode cX12_tellHill 103 = .ok (.getfield 64, 3) := by decide +kernel
theorem dX12_tellHill_106 : decode cX12_tellHill 106 = .ok (.iconst 1, 1) := by decide +kernel
theorem dX12_tellHill_107 : decode cX12_tellHill 107 = .ok (.dup2, 1) := by decide +kernel
theorem dX12_tellHill_108 : decode cX12_tellHill 108 = .ok (.iaload, 1) := by decide +kernel
theorem dX12_tellHill_109 : decode cX12_tellHill 109 = .ok (.iconst 1, 1) := by decide +kernel
theorem dX12_tellHill_110 : decode cX12_tellHill 110 = .ok (.iadd, 1) := by decide +kernel
theorem dX12_tellHill_111 : decode cX12_tellHill 111 = .ok (.iastore, 1) := by decide +kernel
theorem dX12_tellHill_112 : decode cX12_tellHill 112 = .ok (.iconst 1, 1) := by decide +kernel
theorem dX12_tellHill_113 : decode cX12_tellHill 113 = .ok (.ireturn, 1) := by decide +kernel
set_option maxRecDepth 20000 in
theorem ggX12_tellSky_X12_wrong : GoodIn wsX12_tellSky wsX12_wrong := goodIn_r _ [12, 13, 14, 15, 16, 79, 80, 81, 82, 83, 84, 85, 86, 87, 88, 89, 90, 91, 92, 93, 94, 95, 96, 97, 98, 99, 100, 101, 102, 103, 104, 105, 106, 107, 108, 109, 110, 111, 112, 113, 114, 115, 116, 117, 118, 119, 120, 121, 122, 123, 124, 125, 126, 127, 128, 129, 130, 131, 132, 133, 134, 135, 136, 137, 138, 139, 140, 141, 142, 143, 144, 145, 146, 147, 148, 149, 150, 151, 152, 153, 154, 155, 156, 157, 158, 159] (by decide +kernel) (by decide +kernel)
set_option maxRecDepth 20000 in
theorem gX12_tellSky_X12_wrong : GoodIn wsX12_tellSky (wsV RX12 314 RX12 yX12_wrong wsX12_wrong) := goodIn_app (goodIn_of _ (by decide +kernel)) ggX12_tellSky_X12_wrong
set_option maxRecDepth 20000 in
theorem ggX12_tellSky_X12_pass : GoodIn wsX12_tellSky wsX12_pass := goodIn_r _ [20, 15, 8, 9, 10, 11, 12, 13, 14, 16, 79, 80, 81, 82, 83, 84, 85, 86, 87, 88, 89, 90, 91, 92, 93, 94, 95, 96, 97, 98, 99, 100, 101, 102, 103, 104, 105, 106, 107, 108, 109, 110, 111, 112, 113, 114, 115, 116, 117, 118, 119, 120, 121, 122, 123, 124, 125, 126, 127, 128, 129, 130, 131, 132, 133, 134, 135, 136, 137, 138, 139, 140, 141, 142, 143, 144, 145, 146, 147, 148, 149, 150, 151, 152, 153, 154, 155, 156, 157, 158, 159] (by decide +kernel) (by decide +kernel)
set_option maxRecDepth 20000 in
theorem gX12_tellSky_X12_pass : GoodIn wsX12_tellSky (wsV RX12 317 RX12 yX12_pass wsX12_pass) := goodIn_app (goodIn_of _ (by decide +kernel)) ggX12_tellSky_X12_pass
set_option maxRecDepth 20000 in
theorem ggX12_tellSky_X12_names : GoodIn wsX12_tellSky wsX12_names := goodIn_r _ [24, 15, 25, 26, 27, 28, 29, 30, 31, 11, 32, 33, 17, 18, 19, 20, 8, 9, 10, 12, 13, 14, 16, 34, 35, 36, 37, 38, 39, 79, 80, 81, 82, 83, 84, 85, 86, 87, 88, 89, 90, 91, 92, 93, 94, 95, 96, 97, 98, 99, 100, 101, 102, 103, 104, 105, 106, 107, 108, 109, 110, 111, 112, 113, 114, 115, 116, 117, 118, 119, 120, 121, 122, 123, 124, 125, 126, 127, 128, 129, 130, 131, 132, 133, 134, 135, 136, 137, 138, 139, 140, 141, 142, 143, 144, 145, 146, 147, 148, 149, 150, 151, 152, 153, 154, 155, 156, 157, 158, 159] (by decide +kernel) (by decide +kernel)
set_option maxRecDepth 20000 in
theorem gX12_tellSky_X12_names : GoodIn wsX12_tellSky (wsV RX12 367 RX12 yX12_names wsX12_names) := goodIn_app (goodIn_of _ (by decide +kernel)) ggX12_tellSky_X12_names
set_option maxRecDepth 20000 in
theorem ggX12_tellSky_X12_isWord : GoodIn wsX12_tellSky wsX12_isWord := goodIn_r _ [43, 33, 15, 44, 79, 80, 81, 82, 83, 84, 85, 86, 87, 88, 89, 90, 91, 92, 93, 94, 95, 96, 97, 98, 99, 100, 101, 102, 103, 104, 105, 106, 107, 108, 109, 110, 111, 112, 113, 114, 115, 116, 117, 118, 119, 120, 121, 122, 123, 124, 125, 126, 127, 128, 129, 130, 131, 132, 133, 134, 135, 136, 137, 138, 139, 140, 141, 142, 143, 144, 145, 146, 147, 148, 149, 150, 151, 152, 153, 154, 155, 156, 157, 158, 159] (by decide +kernel) (by decide +kernel)
set_option maxRecDepth 20000 in
theorem gX12_tellSky_X12_isWord : GoodIn wsX12_tellSky (wsV RX12 358 RX12 yX12_isWord wsX12_isWord) := goodIn_app (goodIn_of _ (by decide +kernel)) ggX12_tellSky_X12_isWord
set_option maxRecDepth 20000 in
theorem ggX12_tellSky_X12_takesInt : GoodIn wsX12_tellSky wsX12_takesInt := goodIn_r _ [48, 15, 44, 3, 29, 30, 31, 11, 32, 33, 17, 18, 19, 20, 8, 9, 10, 12, 13, 14, 16, 34, 35, 36, 37, 38, 39, 79, 80, 81, 82, 83, 84, 85, 86, 87, 88, 89, 90, 91, 92, 93, 94, 95, 96, 97, 98, 99, 100, 101, 102, 103, 104, 105, 106, 107, 108, 109, 110, 111, 112, 113, 114, 115, 116, 117, 118, 119, 120, 121, 122, 123, 124, 125, 126, 127, 128, 129, 130, 131, 132, 133, 134, 135, 136, 137, 138, 139, 140, 141, 142, 143, 144, 145, 146, 147, 148, 149, 150, 151, 152, 153, 154, 155, 156, 157, 158, 159] (by decide +kernel) (by decide +kernel)
set_option maxRecDepth 20000 in
theorem gX12_tellSky_X12_takesInt : GoodIn wsX12_tellSky (wsV RX12 369 RX12 yX12_takesInt wsX12_takesInt) := goodIn_app (goodIn_of _ (by decide +kernel)) ggX12_tellSky_X12_takesInt
set_option maxRecDepth 20000 in
theorem ggX12_tellSky_X12_isSign : GoodIn wsX12_tellSky wsX12_isSign := goodIn_r _ [52, 33, 15, 44, 79, 80, 81, 82, 83, 84, 85, 86, 87, 88, 89, 90, 91, 92, 93, 94, 95, 96, 97, 98, 99, 100, 101, 102, 103, 104, 105, 106, 107, 108, 109, 110, 111, 112, 113, 114, 115, 116, 117, 118, 119, 120, 121, 122, 123, 124, 125, 126, 127, 128, 129, 130, 131, 132, 133, 134, 135, 136, 137, 138, 139, 140, 141, 142, 143, 144, 145, 146, 147, 148, 149, 150, 151, 152, 153, 154, 155, 156, 157, 158, 159] (by decide +kernel) (by decide +kernel)
