theorem dX12_init_0 : decode cX12_init 0 = .ok (.aload_n 0, 1) := by decide +kernel
theorem dX12_init_1 : decode cX12_init 1 = .ok (.invokespecial 1, 3) := by decide +kernel
theorem dX12_init_4 : decode cX12_init 4 = .ok (.aload_n 0, 1) := by decide +kernel
theorem dX12_init_5 : decode cX12_init 5 = .ok (.sipush 2000, 3) := by decide +kernel
theorem dX12_init_8 : decode cX12_init 8 = .ok (.newarray .int, 2) := by decide +kernel
theorem dX12_init_10 : decode cX12_init 10 = .ok (.putfield 7, 3) := by decide +kernel
theorem dX12_init_13 : decode cX12_init 13 = .ok (.aload_n 0, 1) := by decide +kernel
theorem dX12_init_14 : decode cX12_init 14 = .ok (.sipush 2001, 3) := by decide +kernel
theorem dX12_init_17 : decode cX12_init 17 = .ok (.newarray .int, 2) := by decide +kernel
theorem dX12_init_19 : decode cX12_init 19 = .ok (.putfield 13, 3) := by decide +kernel
theorem dX12_init_22 : decode cX12_init 22 = .ok (.aload_n 0, 1) := by decide +kernel
theorem dX12_init_23 : decode cX12_init 23 = .ok (.sipush 2001, 3) := by decide +kernel
theorem dX12_init_26 : decode cX12_init 26 = .ok (.newarray .int, 2) := by decide +kernel
theorem dX12_init_28 : decode cX12_init 28 = .ok (.putfield 16, 3) := by decide +kernel
theorem dX12_init_31 : decode cX12_init 31 = .ok (.aload_n 0, 1) := by decide +kernel
theorem dX12_init_32 : decode cX12_init 32 = .ok (.sipush 2001, 3) := by decide +kernel
theorem dX12_init_35 : decode cX12_init 35 = .ok (.newarray .int, 2) := by decide +kernel
theorem dX12_init_37 : decode cX12_init 37 = .ok (.putfield 19, 3) := by decide +kernel
theorem dX12_init_40 : decode cX12_init 40 = .ok (.aload_n 0, 1) := by decide +kernel
theorem dX12_init_41 : decode cX12_init 41 = .ok (.sipush 2001, 3) := by decide +kernel
theorem dX12_init_44 : decode cX12_init 44 = .ok (.newarray .long, 2) := by decide +kernel
theorem dX12_init_46 : decode cX12_init 46 = .ok (.putfield 22, 3) := by decide +kernel
theorem dX12_init_49 : decode cX12_init 49 = .ok (.aload_n 0, 1) := by decide +kernel
theorem dX12_init_50 : decode cX12_init 50 = .ok (.iconst (-1), 1) := by decide +kernel
theorem dX12_init_51 : decode cX12_init 51 = .ok (.putfield 26, 3) := by decide +kernel
theorem dX12_init_54 : decode cX12_init 54 = .ok (.aload_n 0, 1) := by decide +kernel
theorem dX12_init_55 : decode cX12_init 55 = .ok (.iconst 5, 1) := by decide +kernel
theorem dX12_init_56 : decode cX12_init 56 = .ok (.newarray .boolean, 2) := by decide +kernel
theorem dX12_init_58 : decode cX12_init 58 = .ok (.putfield 30, 3) := by decide +kernel
theorem dX12_init_61 : decode cX12_init 61 = .ok (.aload_n 0, 1) := by decide +kernel
theorem dX12_init_62 : decode cX12_init 62 = .ok (.iconst 5, 1) := by decide +kernel
theorem dX12_init_63 : decode cX12_init 63 = .ok (.newarray .int, 2) := by decide +kernel
theorem dX12_init_65 : decode cX12_init 65 = .ok (.putfield 34, 3) := by decide +kernel
theorem dX12_init_68 : decode cX12_init 68 = .ok (.aload_n 0, 1) := by decide +kernel
theorem dX12_init_69 : decode cX12_init 69 = .ok (.iconst 5, 1) := by decide +kernel
theorem dX12_init_70 : decode cX12_init 70 = .ok (.newarray .int, 2) := by decide +kernel
theorem dX12_init_72 : decode cX12_init 72 = .ok (.putfield 37, 3) := by decide +kernel
theorem dX12_init_75 : decode cX12_init 75 = .ok (.aload_n 0, 1) := by decide +kernel
theorem dX12_init_76 : decode cX12_init 76 = .ok (.bipush 70, 2) := by decide +kernel
theorem dX12_init_78 : decode cX12_init 78 = .ok (.newarray .boolean, 2) := by decide +kernel
theorem dX12_init_80 : decode cX12_init 80 = .ok (.putfield 40, 3) := by decide +kernel
theorem dX12_init_83 : decode cX12_init 83 = .ok (.aload_n 0, 1) := by decide +kernel
theorem dX12_init_84 : decode cX12_init 84 = .ok (.bipush 70, 2) := by decide +kernel
theorem dX12_init_86 : decode cX12_init 86 = .ok (.newarray .int, 2) := by decide +kernel
theorem dX12_init_88 : decode cX12_init 88 = .ok (.putfield 43, 3) := by decide +kernel
theorem dX12_init_91 : decode cX12_init 91 = .ok (.aload_n 0, 1) := by decide +kernel
theorem dX12_init_92 : decode cX12_init 92 = .ok (.bipush 70, 2) := by decide +kernel
theorem dX12_init_94 : decode cX12_init 94 = .ok (.newarray .int, 2) := by decide +kernel
theorem dX12_init_96 : decode cX12_init 96 = .ok (.putfield 46, 3) := by decide +kernel
theorem dX12_init_99 : decode cX12_init 99 = .ok (.aload_n 0, 1) := by decide +kernel
theorem dX12_init_100 : decode cX12_init 100 = .ok (.bipush 70, 2) := by decide +kernel
theorem dX12_init_102 : decode cX12_init 102 = .ok (.newarray .int, 2) := by decide +kernel
theorem dX12_init_104 : decode cX12_init 104 = .ok (.putfield 49, 3) := by decide +kernel
theorem dX12_init_107 : decode cX12_init 107 = .ok (.aload_n 0, 1) := by decide +kernel
theorem dX12_init_108 : decode cX12_init 108 = .ok (.bipush 70, 2) := by decide +kernel
theorem dX12_init_110 : decode cX12_init 110 = .ok (.newarray .int, 2) := by decide +kernel
theorem dX12_init_112 : decode cX12_init 112 = .ok (.putfield 52, 3) := by decide +kernel
theorem dX12_init_115 : decode cX12_init 115 = .ok (.aload_n 0, 1) := by decide +kernel
theorem dX12_init_116 : decode cX12_init 116 = .ok (.iconst 5, 1) := by decide +kernel
theorem dX12_init_117 : decode cX12_init 117 = .ok (.newarray .int, 2) := by decide +kernel
theorem dX12_init_119 : decode cX12_init 119 = .ok (.putfield 55, 3) := by decide +kernel
theorem dX12_init_122 : decode cX12_init 122 = .ok (.aload_n 0, 1) := by decide +kernel
theorem dX12_init_123 : decode cX12_init 123 = .ok (.bipush 40, 2) := by decide +kernel
theorem dX12_init_125 : decode cX12_init 125 = .ok (.newarray .int, 2) := by decide +kernel
theorem dX12_init_127 : decode cX12_init 127 = .ok (.putfield 58, 3) := by decide +kernel
theorem dX12_init_130 : decode cX12_init 130 = .ok (.aload_n 0, 1) := by decide +kernel
theorem dX12_init_131 : decode cX12_init 131 = .ok (.bipush 40, 2) := by decide +kernel
theorem dX12_init_133 : decode cX12_init 133 = .ok (.newarray .int, 2) := by decide +kernel
theorem dX12_init_135 : decode cX12_init 135 = .ok (.putfield 61, 3) := by decide +kernel
theorem dX12_init_138 : decode cX12_init 138 = .ok (.aload_n 0, 1) := by decide +kernel
theorem dX12_init_139 : decode cX12_init 139 = .ok (.iconst 5, 1) := by decide +kernel
theorem dX12_init_140 : decode cX12_init 140 = .ok (.newarray .int, 2) := by decide +kernel
theorem dX12_init_142 : decode cX12_init 142 = .ok (.putfield 64, 3) := by decide +kernel
theorem dX12_init_145 : decode cX12_init 145 = .ok (.aload_n 0, 1) := by decide +kernel
theorem dX12_init_146 : decode cX12_init 146 = .ok (.bipush 60, 2) := by decide +kernel
theorem dX12_init_148 : decode cX12_init 148 = .ok (.newarray .int, 2) := by decide +kernel
theorem dX12_init_150 : decode cX12_init 150 = .ok (.putfield 67, 3) := by decide +kernel
theorem dX12_init_153 : decode cX12_init 153 = .ok (.aload_n 0, 1) := by decide +kernel
theorem dX12_init_154 : decode cX12_init 154 = .ok (.bipush 60, 2) := by decide +kernel
theorem dX12_init_156 : decode cX12_init 156 = .ok (.newarray .int, 2) := by decide +kernel
theorem dX12_init_158 : decode cX12_init 158 = .ok (.putfield 70, 3) := by decide +kernel
theorem dX12_init_161 : decode cX12_init 161 = .ok (.aload_n 0, 1) := by decide +kernel
theorem dX12_init_162 : decode cX12_init 162 = .ok (.bipush 60, 2) := by decide +kernel
theorem dX12_init_164 : decode cX12_init 164 = .ok (.newarray .int, 2) := by decide +kernel
theorem dX12_init_166 : decode cX12_init 166 = .ok (.putfield 73, 3) := by decide +kernel
theorem dX12_init_169 : decode cX12_init 169 = .ok (.aload_n 0, 1) := by decide +kernel
theorem dX12_init_170 : decode cX12_init 170 = .ok (.iconst 5, 1) := by decide +kernel
theorem dX12_init_171 : decode cX12_init 171 = .ok (.newarray .int, 2) := by decide +kernel
theorem dX12_init_173 : decode cX12_init 173 = .ok (.putfield 76, 3) := by decide +kernel
theorem dX12_init_176 : decode cX12_init 176 = .ok (.aload_n 0, 1) := by decide +kernel
theorem dX12_init_177 : decode cX12_init 177 = .ok (.bipush 25, 2) := by decide +kernel
theorem dX12_init_179 : decode cX12_init 179 = .ok (.newarray .int, 2) := by decide +kernel
theorem dX12_init_181 : decode cX12_init 181 = .ok (.putfield 79, 3) := by decide +kernel
theorem dX12_init_184 : decode cX12_init 184 = .ok (.aload_n 0, 1) := by decide +kernel
theorem dX12_init_185 : decode cX12_init 185 = .ok (.bipush 25, 2) := by decide +kernel
theorem dX12_init_187 : decode cX12_init 187 = .ok (.newarray .int, 2) := by decide +kernel
theorem dX12_init_189 : decode cX12_init 189 = .ok (.putfield 82, 3) := by decide +kernel
theorem dX12_init_192 : decode cX12_init 192 = .ok (.aload_n 0, 1) := by decide +kernel
theorem dX12_init_193 : decode cX12_init 193 = .ok (.bipush 25, 2) := by decide +kernel
theorem dX12_init_195 : decode cX12_init 195 = .ok (.newarray .int, 2) := by decide +kernel
theorem dX12_init_197 : decode cX12_init 197 = .ok (.putfield 85, 3) := by decide +kernel
theorem dX12_init_200 : decode cX12_init 200 = .ok (.aload_n 0, 1) := by decide +kernel
theorem dX12_init_201 : decode cX12_init 201 = .ok (.iconst 5, 1) := by decide +kernel
theorem dX12_init_202 : decode cX12_init 202 = .ok (.newarray .int, 2) := by decide +kernel
theorem dX12_init_204 : decode cX12_init 204 = .ok (.putfield 88, 3) := by decide +kernel
theorem dX12_init_207 : decode cX12_init 207 = .ok (.aload_n 0, 1) := by decide +kernel
theorem dX12_init_208 : decode cX12_init 208 = .ok (.bipush 30, 2) := by decide +kernel
theorem dX12_init_210 : decode cX12_init 210 = .ok (.newarray .int, 2) := by decide +kernel
theorem dX12_init_212 : decode cX12_init 212 = .ok (.putfield 91, 3) := by decide +kernel
theorem dX12_init_215 : decode cX12_init 215 = .ok (.aload_n 0, 1) := by decide +kernel
theorem dX12_init_216 : decode cX12_init 216 = .ok (.bipush 30, 2) := by decide +kernel
theorem dX12_init_218 : decode cX12_init 218 = .ok (.newarray .int, 2) := by decide +kernel
theorem dX12_init_220 : decode cX12_init 220 = .ok (.putfield 94, 3) := by decide +kernel
theorem dX12_init_223 : decode cX12_init 223 = .ok (.aload_n 0, 1) := by decide +kernel
theorem dX12_init_224 : decode cX12_init 224 = .ok (.iconst 5, 1) := by decide +kernel
theorem dX12_init_225 : decode cX12_init 225 = .ok (.newarray .int, 2) := by decide +kernel
theorem dX12_init_227 : decode cX12_init 227 = .ok (.putfield 97, 3) := by decide +kernel
theorem dX12_init_230 : decode cX12_init 230 = .ok (.aload_n 0, 1) := by decide +kernel
theorem dX12_init_231 : decode cX12_init 231 = .ok (.sipush 2500, 3) := by decide +kernel
theorem dX12_init_234 : decode cX12_init 234 = .ok (.newarray .int, 2) := by decide +kernel
theorem dX12_init_236 : decode cX12_init 236 = .ok (.putfield 100, 3) := by decide +kernel
theorem dX12_init_239 : decode cX12_init 239 = .ok (.aload_n 0, 1) := by decide +kernel
theorem dX12_init_240 : decode cX12_init 240 = .ok (.sipush 2500, 3) := by decide +kernel
theorem dX12_init_243 : decode cX12_init 243 = .ok (.newarray .int, 2) := by decide +kernel
theorem dX12_init_245 : decode cX12_init 245 = .ok (.putfield 103, 3) := by decide +kernel
theorem dX12_init_248 : decode cX12_init 248 = .ok (.aload_n 0, 1) := by decide +kernel
theorem dX12_init_249 : decode cX12_init 249 = .ok (.iconst 5, 1) := by decide +kernel
theorem dX12_init_250 : decode cX12_init 250 = .ok (.newarray .int, 2) := by decide +kernel
theorem dX12_init_252 : decode cX12_init 252 = .ok (.putfield 106, 3) := by decide +kernel
theorem dX12_init_255 : decode cX12_init 255 = .ok (.aload_n 0, 1) := by decide +kernel
theorem dX12_init_256 : decode cX12_init 256 = .ok (.sipush 1000, 3) := by decide +kernel
theorem dX12_init_259 : decode cX12_init 259 = .ok (.newarray .boolean, 2) := by decide +kernel
theorem dX12_init_261 : decode cX12_init 261 = .ok (.putfield 109, 3) := by decide +kernel
theorem dX12_init_264 : decode cX12_init 264 = .ok (.aload_n 0, 1) := by decide +kernel
theorem dX12_init_265 : decode cX12_init 265 = .ok (.sipush 1000, 3) := by decide +kernel
theorem dX12_init_268 : decode cX12_init 268 = .ok (.newarray .int, 2) := by decide +kernel
theorem dX12_init_270 : decode cX12_init 270 = .ok (.putfield 112, 3) := by decide +kernel
theorem dX12_init_273 : decode cX12_init 273 = .ok (.aload_n 0, 1) := by decide +kernel
theorem dX12_init_274 : decode cX12_init 274 = .ok (.sipush 1000, 3) := by decide +kernel
theorem dX12_init_277 : decode cX12_init 277 = .ok (.newarray .int, 2) := by decide +kernel
theorem dX12_init_279 : decode cX12_init 279 = .ok (.putfield 115, 3) := by decide +kernel
theorem dX12_init_282 : decode cX12_init 282 = .ok (.aload_n 0, 1) := by decide +kernel
theorem dX12_init_283 : decode cX12_init 283 = .ok (.sipush 1000, 3) := by decide +kernel
theorem dX12_init_286 : decode cX12_init 286 = .ok (.newarray .int, 2) := by decide +kernel
theorem dX12_init_288 : decode cX12_init 288 = .ok (.putfield 118, 3) := by decide +kernel
theorem dX12_init_291 : decode cX12_init 291 = .ok (.aload_n 0, 1) := by decide +kernel
theorem dX12_init_292 : decode cX12_init 292 = .ok (.sipush 1000, 3) := by decide +kernel
theorem dX12_init_295 : decode cX12_init 295 = .ok (.newarray .int, 2) := by decide +kernel
theorem dX12_init_297 : decode cX12_init 297 = .ok (.putfield 121, 3) := by decide +kernel
theorem dX12_init_300 : decode cX12_init 300 = .ok (.aload_n 0, 1) := by decide +kernel
theorem dX12_init_301 : decode cX12_init 301 = .ok (.sipush 1000, 3) := by decide +kernel
theorem dX12_init_304 : decode cX12_init 304 = .ok (.newarray .int, 2) := by decide +kernel
theorem dX12_init_306 : decode cX12_init 306 = .ok (.putfield 124, 3) := by decide +kernel
theorem dX12_init_309 : decode cX12_init 309 = .ok (.aload_n 0, 1) := by decide +kernel
theorem dX12_init_310 : decode cX12_init 310 = .ok (.iconst 5, 1) := by decide +kernel
theorem dX12_init_311 : decode cX12_init 311 = .ok (.newarray .int, 2) := by decide +kernel
theorem dX12_init_313 : decode cX12_init 313 = .ok (.putfield 127, 3) := by decide +kernel
theorem dX12_init_316 : decode cX12_init 316 = .ok (.aload_n 0, 1) := by decide +kernel
theorem dX12_init_317 : decode cX12_init 317 = .ok (.sipush 300, 3) := by decide +kernel
theorem dX12_init_320 : decode cX12_init 320 = .ok (.newarray .int, 2) := by decide +kernel
theorem dX12_init_322 : decode cX12_init 322 = .ok (.putfield 130, 3) := by decide +kernel
theorem dX12_init_325 : decode cX12_init 325 = .ok (.aload_n 0, 1) := by decide +kernel
theorem dX12_init_326 : decode cX12_init 326 = .ok (.sipush 300, 3) := by decide +kernel
theorem dX12_init_329 : decode cX12_init 329 = .ok (.newarray .int, 2) := by decide +kernel
theorem dX12_init_331 : decode cX12_init 331 = .ok (.putfield 133, 3) := by decide +kernel
theorem dX12_init_334 : decode cX12_init 334 = .ok (.aload_n 0, 1) := by decide +kernel
theorem dX12_init_335 : decode cX12_init 335 = .ok (.sipush 300, 3) := by decide +kernel
theorem dX12_init_338 : decode cX12_init 338 = .ok (.newarray .int, 2) := by decide +kernel
theorem dX12_init_340 : decode cX12_init 340 = .ok (.putfield 136, 3) := by decide +kernel
theorem dX12_init_343 : decode cX12_init 343 = .ok (.aload_n 0, 1) := by decide +kernel
theorem dX12_init_344 : decode cX12_init 344 = .ok (.sipush 300, 3) := by decide +kernel
theorem dX12_init_347 : decode cX12_init 347 = .ok (.newarray .int, 2) := by decide +kernel
theorem dX12_init_349 : decode cX12_init 349 = .ok (.putfield 139, 3) := by decide +kernel
theorem dX12_init_352 : decode cX12_init 352 = .ok (.aload_n 0, 1) := by decide +kernel
theorem dX12_init_353 : decode cX12_init 353 = .ok (.bipush 20, 2) := by decide +kernel
theorem dX12_init_355 : decode cX12_init 355 = .ok (.newarray .long, 2) := by decide +kernel
theorem dX12_init_357 : decode cX12_init 357 = .ok (.putfield 142, 3) := by decide +kernel
theorem dX12_init_360 : decode cX12_init 360 = .ok (.aload_n 0, 1) := by decide +kernel
theorem dX12_init_361 : decode cX12_init 361 = .ok (.bipush 20, 2) := by decide +kernel
theorem dX12_init_363 : decode cX12_init 363 = .ok (.newarray .int, 2) := by decide +kernel
theorem dX12_init_365 : decode cX12_init 365 = .ok (.putfield 145, 3) := by decide +kernel
theorem dX12_init_368 : decode cX12_init 368 = .ok (.aload_n 0, 1) := by decide +kernel
theorem dX12_init_369 : decode cX12_init 369 = .ok (.bipush 6, 2) := by decide +kernel
theorem dX12_init_371 : decode cX12_init 371 = .ok (.newarray .int, 2) := by decide +kernel
theorem dX12_init_373 : decode cX12_init 373 = .ok (.putfield 148, 3) := by decide +kernel
theorem dX12_init_376 : decode cX12_init 376 = .ok (.aload_n 0, 1) := by decide +kernel
theorem dX12_init_377 : decode cX12_init 377 = .ok (.bipush 6, 2) := by decide +kernel
theorem dX12_init_379 : decode cX12_init 379 = .ok (.newarray .int, 2) := by decide +kernel
theorem dX12_init_381 : decode cX12_init 381 = .ok (.putfield 151, 3) := by decide +kernel
theorem dX12_init_384 : decode cX12_init 384 = .ok (.aload_n 0, 1) := by decide +kernel
theorem dX12_init_385 : decode cX12_init 385 = .ok (.sipush 500, 3) := by decide +kernel
theorem dX12_init_388 : decode cX12_init 388 = .ok (.newarray .int, 2) := by decide +kernel
theorem dX12_init_390 : decode cX12_init 390 = .ok (.putfield 154, 3) := by decide +kernel
theorem dX12_init_393 : decode cX12_init 393 = .ok (.aload_n 0, 1) := by decide +kernel
theorem dX12_init_394 : decode cX12_init 394 = .ok (.bipush 14, 2) := by decide +kernel
theorem dX12_init_396 : decode cX12_init 396 = .ok (.newarray .int, 2) := by decide +kernel
theorem dX12_init_398 : decode cX12_init 398 = .ok (.putfield 157, 3) := by decide +kernel
theorem dX12_init_401 : decode cX12_init 401 = .ok (.aload_n 0, 1) := by decide +kernel
theorem dX12_init_402 : decode cX12_init 402 = .ok (.bipush 14, 2) := by decide +kernel
theorem dX12_init_404 : decode cX12_init 404 = .ok (.newarray .int, 2) := by decide +kernel
theorem dX12_init_406 : decode cX12_init 406 = .ok (.putfield 160, 3) := by decide +kernel
theorem dX12_init_409 : decode cX12_init 409 = .ok (.aload_n 0, 1) := by decide +kernel
theorem dX12_init_410 : decode cX12_init 410 = .ok (.bipush 14, 2) := by decide +kernel
theorem dX12_init_412 : decode cX12_init 412 = .ok (.newarray .int, 2) := by decide +kernel
theorem dX12_init_414 : decode cX12_init 414 = .ok (.putfield 163, 3) := by decide +kernel
theorem dX12_init_417 : decode cX12_init 417 = .ok (.aload_n 0, 1) := by decide +kernel
theorem dX12_init_418 : decode cX12_init 418 = .ok (.bipush 14, 2) := by decide +kernel
theorem dX12_init_420 : decode cX12_init 420 = .ok (.newarray .boolean, 2) := by decide +kernel
theorem dX12_init_422 : decode cX12_init 422 = .ok (.putfield 166, 3) := by decide +kernel
theorem dX12_init_425 : decode cX12_init 425 = .ok (.aload_n 0, 1) := by decide +kernel
theorem dX12_init_426 : decode cX12_init 426 = .ok (.sipush 196, 3) := by decide +kernel
theorem dX12_init_429 : decode cX12_init 429 = .ok (.newarray .boolean, 2) := by decide +kernel
theorem dX12_init_431 : decode cX12_init 431 = .ok (.putfield 169, 3) := by decide +kernel
theorem dX12_init_434 : decode cX12_init 434 = .ok (.aload_n 0, 1) := by decide +kernel
theorem dX12_init_435 : decode cX12_init 435 = .ok (.sipush 196, 3) := by decide +kernel
theorem dX12_init_438 : decode cX12_init 438 = .ok (.newarray .int, 2) := by decide +kernel
theorem dX12_init_440 : decode cX12_init 440 = .ok (.putfield 172, 3) := by decide +kernel
theorem dX12_init_443 : decode cX12_init 443 = .ok (.aload_n 0, 1) := by decide +kernel
theorem dX12_init_444 : decode cX12_init 444 = .ok (.sipush 196, 3) := by decide +kernel
theorem dX12_init_447 : decode cX12_init 447 = .ok (.newarray .int, 2) := by decide +kernel
theorem dX12_init_449 : decode cX12_init 449 = .ok (.putfield 175, 3) := by decide +kernel
theorem dX12_init_452 : decode cX12_init 452 = .ok (.aload_n 0, 1) := by decide +kernel
theorem dX12_init_453 : decode cX12_init 453 = .ok (.sipush 196, 3) := by decide +kernel
theorem dX12_init_456 : decode cX12_init 456 = .ok (.newarray .boolean, 2) := by decide +kernel
theorem dX12_init_458 : decode cX12_init 458 = .ok (.putfield 178, 3) := by decide +kernel
theorem dX12_init_461 : decode cX12_init 461 = .ok (.aload_n 0, 1) := by decide +kernel
theorem dX12_init_462 : decode cX12_init 462 = .ok (.bipush 9, 2) := by decide +kernel
theorem dX12_init_464 : decode cX12_init 464 = .ok (.newarray .int, 2) := by decide +kernel
theorem dX12_init_466 : decode cX12_init 466 = .ok (.putfield 181, 3) := by decide +kernel
theorem dX12_init_469 : decode cX12_init 469 = .ok (.aload_n 0, 1) := by decide +kernel
theorem dX12_init_470 : decode cX12_init 470 = .ok (.sipush 500, 3) := by decide +kernel
theorem dX12_init_473 : decode cX12_init 473 = .ok (.newarray .int, 2) := by decide +kernel
theorem dX12_init_475 : decode cX12_init 475 = .ok (.putfield 184, 3) := by decide +kernel
theorem dX12_init_478 : decode cX12_init 478 = .ok (.aload_n 0, 1) := by decide +kernel
theorem dX12_init_479 : decode cX12_init 479 = .ok (.iconst 5, 1) := by decide +kernel
theorem dX12_init_480 : decode cX12_init 480 = .ok (.newarray .int, 2) := by decide +kernel
theorem dX12_init_482 : decode cX12_init 482 = .ok (.putfield 187, 3) := by decide +kernel
theorem dX12_init_485 : decode cX12_init 485 = .ok (.aload_n 0, 1) := by decide +kernel
theorem dX12_init_486 : decode cX12_init 486 = .ok (.sipush 16384, 3) := by decide +kernel
theorem dX12_init_489 : decode cX12_init 489 = .ok (.newarray .int, 2) := by decide +kernel
theorem dX12_init_491 : decode cX12_init 491 = .ok (.putfield 190, 3) := by decide +kernel
theorem dX12_init_494 : decode cX12_init 494 = .ok (.aload_n 0, 1) := by decide +kernel
theorem dX12_init_495 : decode cX12_init 495 = .ok (.bipush 14, 2) := by decide +kernel
theorem dX12_init_497 : decode cX12_init 497 = .ok (.newarray .int, 2) := by decide +kernel
theorem dX12_init_499 : decode cX12_init 499 = .ok (.putfield 193, 3) := by decide +kernel
theorem dX12_init_502 : decode cX12_init 502 = .ok (.aload_n 0, 1) := by decide +kernel
theorem dX12_init_503 : decode cX12_init 503 = .ok (.sipush 360, 3) := by decide +kernel
theorem dX12_init_506 : decode cX12_init 506 = .ok (.newarray .int, 2) := by decide +kernel
theorem dX12_init_508 : decode cX12_init 508 = .ok (.putfield 196, 3) := by decide +kernel
theorem dX12_init_511 : decode cX12_init 511 = .ok (.aload_n 0, 1) := by decide +kernel
theorem dX12_init_512 : decode cX12_init 512 = .ok (.sipush 360, 3) := by decide +kernel
theorem dX12_init_515 : decode cX12_init 515 = .ok (.newarray .int, 2) := by decide +kernel
theorem dX12_init_517 : decode cX12_init 517 = .ok (.putfield 199, 3) := by decide +kernel
theorem dX12_init_520 : decode cX12_init 520 = .ok (.aload_n 0, 1) := by decide +kernel
theorem dX12_init_521 : decode cX12_init 521 = .ok (.sipush 200, 3) := by decide +kernel
theorem dX12_init_524 : decode cX12_init 524 = .ok (.newarray .int, 2) := by decide +kernel
theorem dX12_init_526 : decode cX12_init 526 = .ok (.putfield 202, 3) := by decide +kernel
theorem dX12_init_529 : decode cX12_init 529 = .ok (.aload_n 0, 1) := by decide +kernel
theorem dX12_init_530 : decode cX12_init 530 = .ok (.ldc 205, 2) := by decide +kernel
theorem dX12_init_532 : decode cX12_init 532 = .ok (.newarray .int, 2) := by decide +kernel
theorem dX12_init_534 : decode cX12_init 534 = .ok (.putfield 206, 3) := by decide +kernel
theorem dX12_init_537 : decode cX12_init 537 = .ok (.aload_n 0, 1) := by decide +kernel
theorem dX12_init_538 : decode cX12_init 538 = .ok (.sipush 196, 3) := by decide +kernel
theorem dX12_init_541 : decode cX12_init 541 = .ok (.newarray .boolean, 2) := by decide +kernel
theorem dX12_init_543 : decode cX12_init 543 = .ok (.putfield 209, 3) := by decide +kernel
theorem dX12_init_546 : decode cX12_init 546 = .ok (.aload_n 0, 1) := by decide +kernel
theorem dX12_init_547 : decode cX12_init 547 = .ok (.bipush 14, 2) := by decide +kernel
theorem dX12_init_549 : decode cX12_init 549 = .ok (.newarray .int, 2) := by decide +kernel
theorem dX12_init_551 : decode cX12_init 551 = .ok (.putfield 212, 3) := by decide +kernel
theorem dX12_init_554 : decode cX12_init 554 = .ok (.aload_n 0, 1) := by decide +kernel
theorem dX12_init_555 : decode cX12_init 555 = .ok (.bipush 14, 2) := by decide +kernel
theorem dX12_init_557 : decode cX12_init 557 = .ok (.newarray .int, 2) := by decide +kernel
theorem dX12_init_559 : decode cX12_init 559 = .ok (.putfield 215, 3) := by decide +kernel
theorem dX12_init_562 : decode cX12_init 562 = .ok (.aload_n 0, 1) := by decide +kernel
theorem dX12_init_563 : decode cX12_init 563 = .ok (.iconst 0, 1) := by decide +kernel
theorem dX12_init_564 : decode cX12_init 564 = .ok (.invokevirtual 218, 3) := by decide +kernel
theorem dX12_init_567 : decode cX12_init 567 = .ok (.return_, 1) := by decide +kernel
theorem dX12_feed_0 : decode cX12_feed 0 = .ok (.aload_n 0, 1) := by decide +kernel
theorem dX12_feed_1 : decode cX12_feed 1 = .ok (.getfield 222, 3) := by decide +kernel
theorem dX12_feed_4 : decode cX12_feed 4 = .ok (.bipush 20, 2) := by decide +kernel
theorem dX12_feed_6 : decode cX12_feed 6 = .ok (.iadd, 1) := by decide +kernel
theorem dX12_feed_7 : decode cX12_feed 7 = .ok (.sipush 2000, 3) := by decide +kernel
theorem dX12_feed_10 : decode cX12_feed 10 = .ok (.if_icmp .le 5, 3) := by decide +kernel
theorem dX12_feed_13 : decode cX12_feed 13 = .ok (.iconst (-1), 1) := by decide +kernel
theorem dX12_feed_14 : decode cX12_feed 14 = .ok (.ireturn, 1) := by decide +kernel
theorem dX12_feed_15 : decode cX12_feed 15 = .ok (.aload_n 0, 1) := by decide +kernel
theorem dX12_feed_16 : decode cX12_feed 16 = .ok (.iload_n 1, 1) := by decide +kernel
theorem dX12_feed_17 : decode cX12_feed 17 = .ok (.invokevirtual 225, 3) := by decide +kernel
theorem dX12_feed_20 : decode cX12_feed 20 = .ok (.aload_n 0, 1) := by decide +kernel
theorem dX12_feed_21 : decode cX12_feed 21 = .ok (.iload_n 2, 1) := by decide +kernel
theorem dX12_feed_22 : decode cX12_feed 22 = .ok (.invokevirtual 225, 3) := by decide +kernel
theorem dX12_feed_25 : decode cX12_feed 25 = .ok (.aload_n 0, 1) := by decide +kernel
theorem dX12_feed_26 : decode cX12_feed 26 = .ok (.iload_n 3, 1) := by decide +kernel
theorem dX12_feed_27 : decode cX12_feed 27 = .ok (.invokevirtual 225, 3) := by decide +kernel
theorem dX12_feed_30 : decode cX12_feed 30 = .ok (.aload_n 0, 1) := by decide +kernel
theorem dX12_feed_31 : decode cX12_feed 31 = .ok (.iload 4, 2) := by decide +kernel
theorem dX12_feed_33 : decode cX12_feed 33 = .ok (.invokevirtual 225, 3) := by decide +kernel
theorem dX12_feed_36 : decode cX12_feed 36 = .ok (.aload_n 0, 1) := by decide +kernel
theorem dX12_feed_37 : decode cX12_feed 37 = .ok (.iload 5, 2) := by decide +kernel
theorem dX12_feed_39 : decode cX12_feed 39 = .ok (.invokevirtual 225, 3) := by decide +kernel
theorem dX12_feed_42 : decode cX12_feed 42 = .ok (.aload_n 0, 1) := by decide +kernel
theorem dX12_feed_43 : decode cX12_feed 43 = .ok (.getfield 222, 3) := by decide +kernel
theorem dX12_feed_46 : decode cX12_feed 46 = .ok (.ireturn, 1) := by decide +kernel
theorem dX12_typed_0 : decode cX12_typed 0 = .ok (.iconst 0, 1) := by decide +kernel
theorem dX12_typed_1 : decode cX12_typed 1 = .ok (.istore_n 2, 1) := by decide +kernel
theorem dX12_typed_2 : decode cX12_typed 2 = .ok (.iload_n 2, 1) := by decide +kernel
theorem dX12_typed_3 : decode cX12_typed 3 = .ok (.iconst 4, 1) := by decide +kernel
theorem dX12_typed_4 : decode cX12_typed 4 = .ok (.if_icmp .ge 41, 3) := by decide +kernel
theorem dX12_typed_7 : decode cX12_typed 7 = .ok (.aload_n 0, 1) := by decide +kernel
theorem dX12_typed_8 : decode cX12_typed 8 = .ok (.getfield 7, 3) := by decide +kernel
theorem dX12_typed_11 : decode cX12_typed 11 = .ok (.aload_n 0, 1) := by decide +kernel
theorem dX12_typed_12 : decode cX12_typed 12 = .ok (.getfield 222, 3) := by decide +kernel
theorem dX12_typed_15 : decode cX12_typed 15 = .ok (.iload_n 1, 1) := by decide +kernel
theorem dX12_typed_16 : decode cX12_typed 16 = .ok (.bipush 24, 2) := by decide +kernel
theorem dX12_typed_18 : decode cX12_typed 18 = .ok (.bipush 8, 2) := by decide +kernel
theorem dX12_typed_20 : decode cX12_typed 20 = .ok (.iload_n 2, 1) := by decide +kernel
theorem dX12_typed_21 : decode cX12_typed 21 = .ok (.imul, 1) := by decide +kernel
theorem dX12_typed_22 : decode cX12_typed 22 = .ok (.isub, 1) := by decide +kernel
theorem dX12_typed_23 : decode cX12_typed 23 = .ok (.ishr, 1) := by decide +kernel
theorem dX12_typed_24 : decode cX12_typed 24 = .ok (.sipush 255, 3) := by decide +kernel
theorem dX12_typed_27 : decode cX12_typed 27 = .ok (.iand, 1) := by decide +kernel
theorem dX12_typed_28 : decode cX12_typed 28 = .ok (.iastore, 1) := by decide +kernel
theorem dX12_typed_29 : decode cX12_typed 29 = .ok (.aload_n 0, 1) := by decide +kernel
theorem dX12_typed_30 : decode cX12_typed 30 = .ok (.dup, 1) := by decide +kernel
theorem dX12_typed_31 : decode cX12_typed 31 = .ok (.getfield 222, 3) := by decide +kernel
theorem dX12_typed_34 : decode cX12_typed 34 = .ok (.iconst 1, 1) := by decide +kernel
theorem dX12_typed_35 : decode cX12_typed 35 = .ok (.iadd, 1) := by decide +kernel
theorem dX12_typed_36 : decode cX12_typed 36 = .ok (.putfield 222, 3) := by decide +kernel
theorem dX12_typed_39 : decode cX12_typed 39 = .ok (.iinc 2 1, 3) := by decide +kernel
theorem dX12_typed_42 : decode cX12_typed 42 = .ok (.goto (-40), 3) := by decide +kernel
theorem dX12_typed_45 : decode cX12_typed 45 = .ok (.return_, 1) := by decide +kernel
theorem dX12_back_0 : decode cX12_back 0 = .ok (.iload_n 1, 1) := by decide +kernel
theorem dX12_back_1 : decode cX12_back 1 = .ok (.ifCond .lt 11, 3) := by decide +kernel
theorem dX12_back_4 : decode cX12_back 4 = .ok (.iload_n 1, 1) := by decide +kernel
theorem dX12_back_5 : decode cX12_back 5 = .ok (.aload_n 0, 1) := by decide +kernel
theorem dX12_back_6 : decode cX12_back 6 = .ok (.getfield 222, 3) := by decide +kernel
theorem dX12_back_9 : decode cX12_back 9 = .ok (.if_icmp .le 5, 3) := by decide +kernel
theorem dX12_back_12 : decode cX12_back 12 = .ok (.iconst (-1), 1) := by decide +kernel
theorem dX12_back_13 : decode cX12_back 13 = .ok (.ireturn, 1) := by decide +kernel
theorem dX12_back_14 : decode cX12_back 14 = .ok (.aload_n 0, 1) := by decide +kernel
theorem dX12_back_15 : decode cX12_back 15 = .ok (.aload_n 0, 1) := by decide +kernel
theorem dX12_back_16 : decode cX12_back 16 = .ok (.getfield 222, 3) := by decide +kernel
theorem dX12_back_19 : decode cX12_back 19 = .ok (.iload_n 1, 1) := by decide +kernel
theorem dX12_back_20 : decode cX12_back 20 = .ok (.isub, 1) := by decide +kernel
theorem dX12_back_21 : decode cX12_back 21 = .ok (.putfield 222, 3) := by decide +kernel
theorem dX12_back_24 : decode cX12_back 24 = .ok (.aload_n 0, 1) := by decide +kernel
theorem dX12_back_25 : decode cX12_back 25 = .ok (.getfield 222, 3) := by decide +kernel
theorem dX12_back_28 : decode cX12_back 28 = .ok (.ireturn, 1) := by decide +kernel
theorem dX12_byteAt_0 : decode cX12_byteAt 0 = .ok (.iload_n 1, 1) := by decide +kernel
theorem dX12_byteAt_1 : decode cX12_byteAt 1 = .ok (.aload_n 0, 1) := by decide +kernel
theorem dX12_byteAt_2 : decode cX12_byteAt 2 = .ok (.getfield 222, 3) := by decide +kernel
theorem dX12_byteAt_5 : decode cX12_byteAt 5 = .ok (.if_icmp .ge 12, 3) := by decide +kernel
theorem dX12_byteAt_8 : decode cX12_byteAt 8 = .ok (.aload_n 0, 1) := by decide +kernel
theorem dX12_byteAt_9 : decode cX12_byteAt 9 = .ok (.getfield 7, 3) := by decide +kernel
theorem dX12_byteAt_12 : decode cX12_byteAt 12 = .ok (.iload_n 1, 1) := by decide +kernel
theorem dX12_byteAt_13 : decode cX12_byteAt 13 = .ok (.iaload, 1) := by decide +kernel
theorem dX12_byteAt_14 : decode cX12_byteAt 14 = .ok (.goto 4, 3) := by decide +kernel
theorem dX12_byteAt_17 : decode cX12_byteAt 17 = .ok (.iconst 0, 1) := by decide +kernel
theorem dX12_byteAt_18 : decode cX12_byteAt 18 = .ok (.ireturn, 1) := by decide +kernel
theorem dX12_isLetter_0 : decode cX12_isLetter 0 = .ok (.aload_n 0, 1) := by decide +kernel
theorem dX12_isLetter_1 : decode cX12_isLetter 1 = .ok (.iload_n 1, 1) := by decide +kernel
theorem dX12_isLetter_2 : decode cX12_isLetter 2 = .ok (.invokevirtual 228, 3) := by decide +kernel
theorem dX12_isLetter_5 : decode cX12_isLetter 5 = .ok (.bipush 97, 2) := by decide +kernel
theorem dX12_isLetter_7 : decode cX12_isLetter 7 = .ok (.if_icmp .lt 17, 3) := by decide +kernel
theorem dX12_isLetter_10 : decode cX12_isLetter 10 = .ok (.aload_n 0, 1) := by decide +kernel
theorem dX12_isLetter_11 : decode cX12_isLetter 11 = .ok (.iload_n 1, 1) := by decide +kernel
theorem dX12_isLetter_12 : decode cX12_isLetter 12 = .ok (.invokevirtual 228, 3) := by decide +kernel
theorem dX12_isLetter_15 : decode cX12_isLetter 15 = .ok (.bipush 122, 2) := by decide +kernel
theorem dX12_isLetter_17 : decode cX12_isLetter 17 = .ok (.if_icmp .gt 7, 3) := by decide +kernel
theorem dX12_isLetter_20 : decode cX12_isLetter 20 = .ok (.iconst 1, 1) := by decide +kernel
theorem dX12_isLetter_21 : decode cX12_isLetter 21 = .ok (.goto 4, 3) := by decide +kernel
theorem dX12_isLetter_24 : decode cX12_isLetter 24 = .ok (.iconst 0, 1) := by decide +kernel
theorem dX12_isLetter_25 : decode cX12_isLetter 25 = .ok (.ireturn, 1) := by decide +kernel
theorem dX12_isDigit_0 : decode cX12_isDigit 0 = .ok (.aload_n 0, 1) := by decide +kernel
theorem dX12_isDigit_1 : decode cX12_isDigit 1 = .ok (.iload_n 1, 1) := by decide +kernel
theorem dX12_isDigit_2 : decode cX12_isDigit 2 = .ok (.invokevirtual 228, 3) := by decide +kernel
theorem dX12_isDigit_5 : decode cX12_isDigit 5 = .ok (.bipush 48, 2) := by decide +kernel
theorem dX12_isDigit_7 : decode cX12_isDigit 7 = .ok (.if_icmp .lt 17, 3) := by decide +kernel
theorem dX12_isDigit_10 : decode cX12_isDigit 10 = .ok (.aload_n 0, 1) := by decide +kernel
theorem dX12_isDigit_11 : decode cX12_isDigit 11 = .ok (.iload_n 1, 1) := by decide +kernel
theorem dX12_isDigit_12 : decode cX12_isDigit 12 = .ok (.invokevirtual 228, 3) := by decide +kernel
theorem dX12_isDigit_15 : decode cX12_isDigit 15 = .ok (.bipush 57, 2) := by decide +kernel
theorem dX12_isDigit_17 : decode cX12_isDigit 17 = .ok (.if_icmp .gt 7, 3) := by decide +kernel
theorem dX12_isDigit_20 : decode cX12_isDigit 20 = .ok (.iconst 1, 1) := by decide +kernel
theorem dX12_isDigit_21 : decode cX12_isDigit 21 = .ok (.goto 4, 3) := by decide +kernel
theorem dX12_isDigit_24 : decode cX12_isDigit 24 = .ok (.iconst 0, 1) := by decide +kernel
theorem dX12_isDigit_25 : decode cX12_isDigit 25 = .ok (.ireturn, 1) := by decide +kernel
theorem dX12_token_0 : decode cX12_token 0 = .ok (.aload_n 0, 1) := by decide +kernel
theorem dX12_token_1 : decode cX12_token 1 = .ok (.getfield 13, 3) := by decide +kernel
theorem dX12_token_4 : decode cX12_token 4 = .ok (.aload_n 0, 1) := by decide +kernel
theorem dX12_token_5 : decode cX12_token 5 = .ok (.getfield 232, 3) := by decide +kernel
theorem dX12_token_8 : decode cX12_token 8 = .ok (.iload_n 1, 1) := by decide +kernel
theorem dX12_token_9 : decode cX12_token 9 = .ok (.iastore, 1) := by decide +kernel
theorem dX12_token_10 : decode cX12_token 10 = .ok (.aload_n 0, 1) := by decide +kernel
theorem dX12_token_11 : decode cX12_token 11 = .ok (.getfield 16, 3) := by decide +kernel
theorem dX12_token_14 : decode cX12_token 14 = .ok (.aload_n 0, 1) := by decide +kernel
theorem dX12_token_15 : decode cX12_token 15 = .ok (.getfield 232, 3) := by decide +kernel
theorem dX12_token_18 : decode cX12_token 18 = .ok (.iload_n 2, 1) := by decide +kernel
theorem dX12_token_19 : decode cX12_token 19 = .ok (.iastore, 1) := by decide +kernel
theorem dX12_token_20 : decode cX12_token 20 = .ok (.aload_n 0, 1) := by decide +kernel
theorem dX12_token_21 : decode cX12_token 21 = .ok (.getfield 19, 3) := by decide +kernel
theorem dX12_token_24 : decode cX12_token 24 = .ok (.aload_n 0, 1) := by decide +kernel
theorem dX12_token_25 : decode cX12_token 25 = .ok (.getfield 232, 3) := by decide +kernel
theorem dX12_token_28 : decode cX12_token 28 = .ok (.iload_n 3, 1) := by decide +kernel
theorem dX12_token_29 : decode cX12_token 29 = .ok (.iastore, 1) := by decide +kernel
theorem dX12_token_30 : decode cX12_token 30 = .ok (.aload_n 0, 1) := by decide +kernel
theorem dX12_token_31 : decode cX12_token 31 = .ok (.dup, 1) := by decide +kernel
theorem dX12_token_32 : decode cX12_token 32 = .ok (.getfield 232, 3) := by decide +kernel
theorem dX12_token_35 : decode cX12_token 35 = .ok (.iconst 1, 1) := by decide +kernel
theorem dX12_token_36 : decode cX12_token 36 = .ok (.iadd, 1) := by decide +kernel
theorem dX12_token_37 : decode cX12_token 37 = .ok (.putfield 232, 3) := by decide +kernel
theorem dX12_token_40 : decode cX12_token 40 = .ok (.return_, 1) := by decide +kernel
theorem dX12_wordOf_0 : decode cX12_wordOf 0 = .ok (.lload_n 0, 1) := by decide +kernel
theorem dX12_wordOf_1 : decode cX12_wordOf 1 = .ok (.ldc2_w 235, 3) := by decide +kernel
theorem dX12_wordOf_4 : decode cX12_wordOf 4 = .ok (.lcmp, 1) := by decide +kernel
theorem dX12_wordOf_5 : decode cX12_wordOf 5 = .ok (.ifCond .ne 5, 3) := by decide +kernel
theorem dX12_wordOf_8 : decode cX12_wordOf 8 = .ok (.iconst 0, 1) := by decide +kernel
theorem dX12_wordOf_9 : decode cX12_wordOf 9 = .ok (.ireturn, 1) := by decide +kernel
theorem dX12_wordOf_10 : decode cX12_wordOf 10 = .ok (.lload_n 0, 1) := by decide +kernel
theorem dX12_wordOf_11 : decode cX12_wordOf 11 = .ok (.ldc2_w 237, 3) := by decide +kernel
theorem dX12_wordOf_14 : decode cX12_wordOf 14 = .ok (.lcmp, 1) := by decide +kernel
theorem dX12_wordOf_15 : decode cX12_wordOf 15 = .ok (.ifCond .ne 5, 3) := by decide +kernel
theorem dX12_wordOf_18 : decode cX12_wordOf 18 = .ok (.iconst 1, 1) := by decide +kernel
theorem dX12_wordOf_19 : decode cX12_wordOf 19 = .ok (.ireturn, 1) := by decide +kernel
theorem dX12_wordOf_20 : decode cX12_wordOf 20 = .ok (.lload_n 0, 1) := by decide +kernel
theorem dX12_wordOf_21 : decode cX12_wordOf 21 = .ok (.ldc2_w 239, 3) := by decide +kernel
theorem dX12_wordOf_24 : decode cX12_wordOf 24 = .ok (.lcmp, 1) := by decide +kernel
theorem dX12_wordOf_25 : decode cX12_wordOf 25 = .ok (.ifCond .ne 5, 3) := by decide +kernel
theorem dX12_wordOf_28 : decode cX12_wordOf 28 = .ok (.iconst 2, 1) := by decide +kernel
theorem dX12_wordOf_29 : decode cX12_wordOf 29 = .ok (.ireturn, 1) := by decide +kernel
theorem dX12_wordOf_30 : decode cX12_wordOf 30 = .ok (.lload_n 0, 1) := by decide +kernel
theorem dX12_wordOf_31 : decode cX12_wordOf 31 = .ok (.ldc2_w 241, 3) := by decide +kernel
theorem dX12_wordOf_34 : decode cX12_wordOf 34 = .ok (.lcmp, 1) := by decide +kernel
theorem dX12_wordOf_35 : decode cX12_wordOf 35 = .ok (.ifCond .ne 5, 3) := by decide +kernel
theorem dX12_wordOf_38 : decode cX12_wordOf 38 = .ok (.iconst 3, 1) := by decide +kernel
theorem dX12_wordOf_39 : decode cX12_wordOf 39 = .ok (.ireturn, 1) := by decide +kernel
theorem dX12_wordOf_40 : decode cX12_wordOf 40 = .ok (.lload_n 0, 1) := by decide +kernel
theorem dX12_wordOf_41 : decode cX12_wordOf 41 = .ok (.ldc2_w 243, 3) := by decide +kernel
theorem dX12_wordOf_44 : decode cX12_wordOf 44 = .ok (.lcmp, 1) := by decide +kernel
theorem dX12_wordOf_45 : decode cX12_wordOf 45 = .ok (.ifCond .ne 5, 3) := by decide +kernel
theorem dX12_wordOf_48 : decode cX12_wordOf 48 = .ok (.iconst 4, 1) := by decide +kernel
theorem dX12_wordOf_49 : decode cX12_wordOf 49 = .ok (.ireturn, 1) := by decide +kernel
theorem dX12_wordOf_50 : decode cX12_wordOf 50 = .ok (.lload_n 0, 1) := by decide +kernel
theorem dX12_wordOf_51 : decode cX12_wordOf 51 = .ok (.ldc2_w 245, 3) := by decide +kernel
theorem dX12_wordOf_54 : decode cX12_wordOf 54 = .ok (.lcmp, 1) := by decide +kernel
theorem dX12_wordOf_55 : decode cX12_wordOf 55 = .ok (.ifCond .ne 5, 3) := by decide +kernel
theorem dX12_wordOf_58 : decode cX12_wordOf 58 = .ok (.iconst 5, 1) := by decide +kernel
theorem dX12_wordOf_59 : decode cX12_wordOf 59 = .ok (.ireturn, 1) := by decide +kernel
theorem dX12_wordOf_60 : decode cX12_wordOf 60 = .ok (.lload_n 0, 1) := by decide +kernel
theorem dX12_wordOf_61 : decode cX12_wordOf 61 = .ok (.ldc2_w 247, 3) := by decide +kernel
theorem dX12_wordOf_64 : decode cX12_wordOf 64 = .ok (.lcmp, 1) := by decide +kernel
theorem dX12_wordOf_65 : decode cX12_wordOf 65 = .ok (.ifCond .ne 6, 3) := by decide +kernel
theorem dX12_wordOf_68 : decode cX12_wordOf 68 = .ok (.bipush 6, 2) := by decide +kernel
theorem dX12_wordOf_70 : decode cX12_wordOf 70 = .ok (.ireturn, 1) := by decide +kernel
theorem dX12_wordOf_71 : decode cX12_wordOf 71 = .ok (.lload_n 0, 1) := by decide +kernel
theorem dX12_wordOf_72 : decode cX12_wordOf 72 = .ok (.ldc2_w 249, 3) := by decide +kernel
theorem dX12_wordOf_75 : decode cX12_wordOf 75 = .ok (.lcmp, 1) := by decide +kernel
theorem dX12_wordOf_76 : decode cX12_wordOf 76 = .ok (.ifCond .ne 6, 3) := by decide +kernel
theorem dX12_wordOf_79 : decode cX12_wordOf 79 = .ok (.bipush 7, 2) := by decide +kernel
theorem dX12_wordOf_81 : decode cX12_wordOf 81 = .ok (.ireturn, 1) := by decide +kernel
theorem dX12_wordOf_82 : decode cX12_wordOf 82 = .ok (.lload_n 0, 1) := by decide +kernel
theorem dX12_wordOf_83 : decode cX12_wordOf 83 = .ok (.ldc2_w 251, 3) := by decide +kernel
theorem dX12_wordOf_86 : decode cX12_wordOf 86 = .ok (.lcmp, 1) := by decide +kernel
theorem dX12_wordOf_87 : decode cX12_wordOf 87 = .ok (.ifCond .ne 6, 3) := by decide +kernel
theorem dX12_wordOf_90 : decode cX12_wordOf 90 = .ok (.bipush 8, 2) := by decide +kernel
theorem dX12_wordOf_92 : decode cX12_wordOf 92 = .ok (.ireturn, 1) := by decide +kernel
theorem dX12_wordOf_93 : decode cX12_wordOf 93 = .ok (.lload_n 0, 1) := by decide +kernel
theorem dX12_wordOf_94 : decode cX12_wordOf 94 = .ok (.ldc2_w 253, 3) := by decide +kernel
theorem dX12_wordOf_97 : decode cX12_wordOf 97 = .ok (.lcmp, 1) := by decide +kernel
theorem dX12_wordOf_98 : decode cX12_wordOf 98 = .ok (.ifCond .ne 6, 3) := by decide +kernel
theorem dX12_wordOf_101 : decode cX12_wordOf 101 = .ok (.bipush 10, 2) := by decide +kernel
theorem dX12_wordOf_103 : decode cX12_wordOf 103 = .ok (.ireturn, 1) := by decide +kernel
theorem dX12_wordOf_104 : decode cX12_wordOf 104 = .ok (.lload_n 0, 1) := by decide +kernel
theorem dX12_wordOf_105 : decode cX12_wordOf 105 = .ok (.ldc2_w 255, 3) := by decide +kernel
theorem dX12_wordOf_108 : decode cX12_wordOf 108 = .ok (.lcmp, 1) := by decide +kernel
theorem dX12_wordOf_109 : decode cX12_wordOf 109 = .ok (.ifCond .ne 6, 3) := by decide +kernel
theorem dX12_wordOf_112 : decode cX12_wordOf 112 = .ok (.bipush 11, 2) := by decide +kernel
theorem dX12_wordOf_114 : decode cX12_wordOf 114 = .ok (.ireturn, 1) := by decide +kernel
theorem dX12_wordOf_115 : decode cX12_wordOf 115 = .ok (.lload_n 0, 1) := by decide +kernel
theorem dX12_wordOf_116 : decode cX12_wordOf 116 = .ok (.ldc2_w 257, 3) := by decide +kernel
theorem dX12_wordOf_119 : decode cX12_wordOf 119 = .ok (.lcmp, 1) := by decide +kernel
theorem dX12_wordOf_120 : decode cX12_wordOf 120 = .ok (.ifCond .ne 6, 3) := by decide +kernel
theorem dX12_wordOf_123 : decode cX12_wordOf 123 = .ok (.bipush 12, 2) := by decide +kernel
theorem dX12_wordOf_125 : decode cX12_wordOf 125 = .ok (.ireturn, 1) := by decide +kernel
theorem dX12_wordOf_126 : decode cX12_wordOf 126 = .ok (.lload_n 0, 1) := by decide +kernel
theorem dX12_wordOf_127 : decode cX12_wordOf 127 = .ok (.ldc2_w 259, 3) := by decide +kernel
theorem dX12_wordOf_130 : decode cX12_wordOf 130 = .ok (.lcmp, 1) := by decide +kernel
theorem dX12_wordOf_131 : decode cX12_wordOf 131 = .ok (.ifCond .ne 6, 3) := by decide +kernel
theorem dX12_wordOf_134 : decode cX12_wordOf 134 = .ok (.bipush 13, 2) := by decide +kernel
theorem dX12_wordOf_136 : decode cX12_wordOf 136 = .ok (.ireturn, 1) := by decide +kernel
theorem dX12_wordOf_137 : decode cX12_wordOf 137 = .ok (.lload_n 0, 1) := by decide +kernel
theorem dX12_wordOf_138 : decode cX12_wordOf 138 = .ok (.ldc2_w 261, 3) := by decide +kernel
theorem dX12_wordOf_141 : decode cX12_wordOf 141 = .ok (.lcmp, 1) := by decide +kernel
theorem dX12_wordOf_142 : decode cX12_wordOf 142 = .ok (.ifCond .ne 6, 3) := by decide +kernel
theorem dX12_wordOf_145 : decode cX12_wordOf 145 = .ok (.bipush 14, 2) := by decide +kernel
theorem dX12_wordOf_147 : decode cX12_wordOf 147 = .ok (.ireturn, 1) := by decide +kernel
theorem dX12_wordOf_148 : decode cX12_wordOf 148 = .ok (.lload_n 0, 1) := by decide +kernel
theorem dX12_wordOf_149 : decode cX12_wordOf 149 = .ok (.ldc2_w 263, 3) := by decide +kernel
theorem dX12_wordOf_152 : decode cX12_wordOf 152 = .ok (.lcmp, 1) := by decide +kernel
theorem dX12_wordOf_153 : decode cX12_wordOf 153 = .ok (.ifCond .ne 6, 3) := by decide +kernel
theorem dX12_wordOf_156 : decode cX12_wordOf 156 = .ok (.bipush 15, 2) := by decide +kernel
theorem dX12_wordOf_158 : decode cX12_wordOf 158 = .ok (.ireturn, 1) := by decide +kernel
theorem dX12_wordOf_159 : decode cX12_wordOf 159 = .ok (.lload_n 0, 1) := by decide +kernel
theorem dX12_wordOf_160 : decode cX12_wordOf 160 = .ok (.ldc2_w 265, 3) := by decide +kernel
theorem dX12_wordOf_163 : decode cX12_wordOf 163 = .ok (.lcmp, 1) := by decide +kernel
theorem dX12_wordOf_164 : decode cX12_wordOf 164 = .ok (.ifCond .ne 6, 3) := by decide +kernel
theorem dX12_wordOf_167 : decode cX12_wordOf 167 = .ok (.bipush 16, 2) := by decide +kernel
theorem dX12_wordOf_169 : decode cX12_wordOf 169 = .ok (.ireturn, 1) := by decide +kernel
theorem dX12_wordOf_170 : decode cX12_wordOf 170 = .ok (.lload_n 0, 1) := by decide +kernel
theorem dX12_wordOf_171 : decode cX12_wordOf 171 = .ok (.ldc2_w 267, 3) := by decide +kernel
theorem dX12_wordOf_174 : decode cX12_wordOf 174 = .ok (.lcmp, 1) := by decide +kernel
theorem dX12_wordOf_175 : decode cX12_wordOf 175 = .ok (.ifCond .ne 6, 3) := by decide +kernel
theorem dX12_wordOf_178 : decode cX12_wordOf 178 = .ok (.bipush 17, 2) := by decide +kernel
theorem dX12_wordOf_180 : decode cX12_wordOf 180 = .ok (.ireturn, 1) := by decide +kernel
theorem dX12_wordOf_181 : decode cX12_wordOf 181 = .ok (.lload_n 0, 1) := by decide +kernel
theorem dX12_wordOf_182 : decode cX12_wordOf 182 = .ok (.ldc2_w 269, 3) := by decide +kernel
theorem dX12_wordOf_185 : decode cX12_wordOf 185 = .ok (.lcmp, 1) := by decide +kernel
theorem dX12_wordOf_186 : decode cX12_wordOf 186 = .ok (.ifCond .ne 6, 3) := by decide +kernel
theorem dX12_wordOf_189 : decode cX12_wordOf 189 = .ok (.bipush 18, 2) := by decide +kernel
theorem dX12_wordOf_191 : decode cX12_wordOf 191 = .ok (.ireturn, 1) := by decide +kernel
theorem dX12_wordOf_192 : decode cX12_wordOf 192 = .ok (.lload_n 0, 1) := by decide +kernel
theorem dX12_wordOf_193 : decode cX12_wordOf 193 = .ok (.ldc2_w 271, 3) := by decide +kernel
theorem dX12_wordOf_196 : decode cX12_wordOf 196 = .ok (.lcmp, 1) := by decide +kernel
theorem dX12_wordOf_197 : decode cX12_wordOf 197 = .ok (.ifCond .ne 6, 3) := by decide +kernel
theorem dX12_wordOf_200 : decode cX12_wordOf 200 = .ok (.bipush 19, 2) := by decide +kernel
theorem dX12_wordOf_202 : decode cX12_wordOf 202 = .ok (.ireturn, 1) := by decide +kernel
theorem dX12_wordOf_203 : decode cX12_wordOf 203 = .ok (.lload_n 0, 1) := by decide +kernel
theorem dX12_wordOf_204 : decode cX12_wordOf 204 = .ok (.ldc2_w 273, 3) := by decide +kernel
theorem dX12_wordOf_207 : decode cX12_wordOf 207 = .ok (.lcmp, 1) := by decide +kernel
theorem dX12_wordOf_208 : decode cX12_wordOf 208 = .ok (.ifCond .ne 6, 3) := by decide +kernel
theorem dX12_wordOf_211 : decode cX12_wordOf 211 = .ok (.bipush 20, 2) := by decide +kernel
theorem dX12_wordOf_213 : decode cX12_wordOf 213 = .ok (.ireturn, 1) := by decide +kernel
theorem dX12_wordOf_214 : decode cX12_wordOf 214 = .ok (.lload_n 0, 1) := by decide +kernel
theorem dX12_wordOf_215 : decode cX12_wordOf 215 = .ok (.ldc2_w 275, 3) := by decide +kernel
theorem dX12_wordOf_218 : decode cX12_wordOf 218 = .ok (.lcmp, 1) := by decide +kernel
theorem dX12_wordOf_219 : decode cX12_wordOf 219 = .ok (.ifCond .ne 6, 3) := by decide +kernel
theorem dX12_wordOf_222 : decode cX12_wordOf 222 = .ok (.bipush 21, 2) := by decide +kernel
theorem dX12_wordOf_224 : decode cX12_wordOf 224 = .ok (.ireturn, 1) := by decide +kernel
theorem dX12_wordOf_225 : decode cX12_wordOf 225 = .ok (.iconst (-1), 1) := by decide +kernel
theorem dX12_wordOf_226 : decode cX12_wordOf 226 = .ok (.ireturn, 1) := by decide +kernel
theorem dX12_signAt_0 : decode cX12_signAt 0 = .ok (.aload_n 0, 1) := by decide +kernel
theorem dX12_signAt_1 : decode cX12_signAt 1 = .ok (.iload_n 1, 1) := by decide +kernel
theorem dX12_signAt_2 : decode cX12_signAt 2 = .ok (.invokevirtual 228, 3) := by decide +kernel
theorem dX12_signAt_5 : decode cX12_signAt 5 = .ok (.istore_n 2, 1) := by decide +kernel
theorem dX12_signAt_6 : decode cX12_signAt 6 = .ok (.aload_n 0, 1) := by decide +kernel
theorem dX12_signAt_7 : decode cX12_signAt 7 = .ok (.iload_n 1, 1) := by decide +kernel
theorem dX12_signAt_8 : decode cX12_signAt 8 = .ok (.iconst 1, 1) := by decide +kernel
theorem dX12_signAt_9 : decode cX12_signAt 9 = .ok (.iadd, 1) := by decide +kernel
theorem dX12_signAt_10 : decode cX12_signAt 10 = .ok (.invokevirtual 228, 3) := by decide +kernel
theorem dX12_signAt_13 : decode cX12_signAt 13 = .ok (.bipush 61, 2) := by decide +kernel
theorem dX12_signAt_15 : decode cX12_signAt 15 = .ok (.if_icmp .ne 7, 3) := by decide +kernel
theorem dX12_signAt_18 : decode cX12_signAt 18 = .ok (.iconst 1, 1) := by decide +kernel
theorem dX12_signAt_19 : decode cX12_signAt 19 = .ok (.goto 4, 3) := by decide +kernel
theorem dX12_signAt_22 : decode cX12_signAt 22 = .ok (.iconst 0, 1) := by decide +kernel
theorem dX12_signAt_23 : decode cX12_signAt 23 = .ok (.istore_n 3, 1) := by decide +kernel
theorem dX12_signAt_24 : decode cX12_signAt 24 = .ok (.iload_n 2, 1) := by decide +kernel
theorem dX12_signAt_25 : decode cX12_signAt 25 = .ok (.bipush 61, 2) := by decide +kernel
theorem dX12_signAt_27 : decode cX12_signAt 27 = .ok (.if_icmp .ne 15, 3) := by decide +kernel
theorem dX12_signAt_30 : decode cX12_signAt 30 = .ok (.iload_n 3, 1) := by decide +kernel
theorem dX12_signAt_31 : decode cX12_signAt 31 = .ok (.ifCond .eq 9, 3) := by decide +kernel
theorem dX12_signAt_34 : decode cX12_signAt 34 = .ok (.sipush 300, 3) := by decide +kernel
theorem dX12_signAt_37 : decode cX12_signAt 37 = .ok (.goto 4, 3) := by decide +kernel
theorem dX12_signAt_40 : decode cX12_signAt 40 = .ok (.iload_n 2, 1) := by decide +kernel
theorem dX12_signAt_41 : decode cX12_signAt 41 = .ok (.ireturn, 1) := by decide +kernel
theorem dX12_signAt_42 : decode cX12_signAt 42 = .ok (.iload_n 2, 1) := by decide +kernel
theorem dX12_signAt_43 : decode cX12_signAt 43 = .ok (.bipush 33, 2) := by decide +kernel
theorem dX12_signAt_45 : decode cX12_signAt 45 = .ok (.if_icmp .ne 15, 3) := by decide +kernel
theorem dX12_signAt_48 : decode cX12_signAt 48 = .ok (.iload_n 3, 1) := by decide +kernel
theorem dX12_signAt_49 : decode cX12_signAt 49 = .ok (.ifCond .eq 9, 3) := by decide +kernel
theorem dX12_signAt_52 : decode cX12_signAt 52 = .ok (.sipush 301, 3) := by decide +kernel
theorem dX12_signAt_55 : decode cX12_signAt 55 = .ok (.goto 4, 3) := by decide +kernel
theorem dX12_signAt_58 : decode cX12_signAt 58 = .ok (.iconst 0, 1) := by decide +kernel
theorem dX12_signAt_59 : decode cX12_signAt 59 = .ok (.ireturn, 1) := by decide +kernel
theorem dX12_signAt_60 : decode cX12_signAt 60 = .ok (.iload_n 2, 1) := by decide +kernel
theorem dX12_signAt_61 : decode cX12_signAt 61 = .ok (.bipush 60, 2) := by decide +kernel
theorem dX12_signAt_63 : decode cX12_signAt 63 = .ok (.if_icmp .ne 15, 3) := by decide +kernel
theorem dX12_signAt_66 : decode cX12_signAt 66 = .ok (.iload_n 3, 1) := by decide +kernel
theorem dX12_signAt_67 : decode cX12_signAt 67 = .ok (.ifCond .eq 9, 3) := by decide +kernel
theorem dX12_signAt_70 : decode cX12_signAt 70 = .ok (.sipush 302, 3) := by decide +kernel
theorem dX12_signAt_73 : decode cX12_signAt 73 = .ok (.goto 4, 3) := by decide +kernel
theorem dX12_signAt_76 : decode cX12_signAt 76 = .ok (.iload_n 2, 1) := by decide +kernel
theorem dX12_signAt_77 : decode cX12_signAt 77 = .ok (.ireturn, 1) := by decide +kernel
theorem dX12_signAt_78 : decode cX12_signAt 78 = .ok (.iload_n 2, 1) := by decide +kernel
theorem dX12_signAt_79 : decode cX12_signAt 79 = .ok (.bipush 59, 2) := by decide +kernel
theorem dX12_signAt_81 : decode cX12_signAt 81 = .ok (.if_icmp .eq 39, 3) := by decide +kernel
theorem dX12_signAt_84 : decode cX12_signAt 84 = .ok (.iload_n 2, 1) := by decide +kernel
theorem dX12_signAt_85 : decode cX12_signAt 85 = .ok (.bipush 43, 2) := by decide +kernel
theorem dX12_signAt_87 : decode cX12_signAt 87 = .ok (.if_icmp .eq 33, 3) := by decide +kernel
theorem dX12_signAt_90 : decode cX12_signAt 90 = .ok (.iload_n 2, 1) := by decide +kernel
theorem dX12_signAt_91 : decode cX12_signAt 91 = .ok (.bipush 45, 2) := by decide +kernel
theorem dX12_signAt_93 : decode cX12_signAt 93 = .ok (.if_icmp .eq 27, 3) := by decide +kernel
theorem dX12_signAt_96 : decode cX12_signAt 96 = .ok (.iload_n 2, 1) := by decide +kernel
theorem dX12_signAt_97 : decode cX12_signAt 97 = .ok (.bipush 42, 2) := by decide +kernel
theorem dX12_signAt_99 : decode cX12_signAt 99 = .ok (.if_icmp .eq 21, 3) := by decide +kernel
theorem dX12_signAt_102 : decode cX12_signAt 102 = .ok (.iload_n 2, 1) := by decide +kernel
theorem dX12_signAt_103 : decode cX12_signAt 103 = .ok (.bipush 47, 2) := by decide +kernel
theorem dX12_signAt_105 : decode cX12_signAt 105 = .ok (.if_icmp .eq 15, 3) := by decide +kernel
theorem dX12_signAt_108 : decode cX12_signAt 108 = .ok (.iload_n 2, 1) := by decide +kernel
theorem dX12_signAt_109 : decode cX12_signAt 109 = .ok (.bipush 40, 2) := by decide +kernel
theorem dX12_signAt_111 : decode cX12_signAt 111 = .ok (.if_icmp .eq 9, 3) := by decide +kernel
theorem dX12_signAt_114 : decode cX12_signAt 114 = .ok (.iload_n 2, 1) := by decide +kernel
theorem dX12_signAt_115 : decode cX12_signAt 115 = .ok (.bipush 41, 2) := by decide +kernel
theorem dX12_signAt_117 : decode cX12_signAt 117 = .ok (.if_icmp .ne 7, 3) := by decide +kernel
theorem dX12_signAt_120 : decode cX12_signAt 120 = .ok (.iload_n 2, 1) := by decide +kernel
theorem dX12_signAt_121 : decode cX12_signAt 121 = .ok (.goto 4, 3) := by decide +kernel
theorem dX12_signAt_124 : decode cX12_signAt 124 = .ok (.iconst 0, 1) := by decide +kernel
theorem dX12_signAt_125 : decode cX12_signAt 125 = .ok (.ireturn, 1) := by decide +kernel
theorem dX12_scan_0 : decode cX12_scan 0 = .ok (.iload_n 1, 1) := by decide +kernel
theorem dX12_scan_1 : decode cX12_scan 1 = .ok (.istore_n 2, 1) := by decide +kernel
theorem dX12_scan_2 : decode cX12_scan 2 = .ok (.aload_n 0, 1) := by decide +kernel
theorem dX12_scan_3 : decode cX12_scan 3 = .ok (.iload_n 1, 1) := by decide +kernel
theorem dX12_scan_4 : decode cX12_scan 4 = .ok (.invokevirtual 277, 3) := by decide +kernel
theorem dX12_scan_7 : decode cX12_scan 7 = .ok (.ifCond .eq 103, 3) := by decide +kernel
theorem dX12_scan_10 : decode cX12_scan 10 = .ok (.lconst 0, 1) := by decide +kernel
theorem dX12_scan_11 : decode cX12_scan 11 = .ok (.lstore_n 3, 1) := by decide +kernel
theorem dX12_scan_12 : decode cX12_scan 12 = .ok (.aload_n 0, 1) := by decide +kernel
theorem dX12_scan_13 : decode cX12_scan 13 = .ok (.iload_n 2, 1) := by decide +kernel
theorem dX12_scan_14 : decode cX12_scan 14 = .ok (.invokevirtual 277, 3) := by decide +kernel
theorem dX12_scan_17 : decode cX12_scan 17 = .ok (.ifCond .eq 34, 3) := by decide +kernel
theorem dX12_scan_20 : decode cX12_scan 20 = .ok (.iload_n 2, 1) := by decide +kernel
theorem dX12_scan_21 : decode cX12_scan 21 = .ok (.iload_n 1, 1) := by decide +kernel
theorem dX12_scan_22 : decode cX12_scan 22 = .ok (.isub, 1) := by decide +kernel
theorem dX12_scan_23 : decode cX12_scan 23 = .ok (.bipush 8, 2) := by decide +kernel
theorem dX12_scan_25 : decode cX12_scan 25 = .ok (.if_icmp .ge 20, 3) := by decide +kernel
theorem dX12_scan_28 : decode cX12_scan 28 = .ok (.lload_n 3, 1) := by decide +kernel
theorem dX12_scan_29 : decode cX12_scan 29 = .ok (.ldc2_w 281, 3) := by decide +kernel
theorem dX12_scan_32 : decode cX12_scan 32 = .ok (.lmul, 1) := by decide +kernel
theorem dX12_scan_33 : decode cX12_scan 33 = .ok (.aload_n 0, 1) := by decide +kernel
theorem dX12_scan_34 : decode cX12_scan 34 = .ok (.iload_n 2, 1) := by decide +kernel
theorem dX12_scan_35 : decode cX12_scan 35 = .ok (.invokevirtual 228, 3) := by decide +kernel
theorem dX12_scan_38 : decode cX12_scan 38 = .ok (.i2l, 1) := by decide +kernel
theorem dX12_scan_39 : decode cX12_scan 39 = .ok (.ladd, 1) := by decide +kernel
theorem dX12_scan_40 : decode cX12_scan 40 = .ok (.ldc2_w 283, 3) := by decide +kernel
theorem dX12_scan_43 : decode cX12_scan 43 = .ok (.lsub, 1) := by decide +kernel
theorem dX12_scan_44 : decode cX12_scan 44 = .ok (.lstore_n 3, 1) := by decide +kernel
theorem dX12_scan_45 : decode cX12_scan 45 = .ok (.iinc 2 1, 3) := by decide +kernel
theorem dX12_scan_48 : decode cX12_scan 48 = .ok (.goto (-36), 3) := by decide +kernel
theorem dX12_scan_51 : decode cX12_scan 51 = .ok (.iload_n 2, 1) := by decide +kernel
theorem dX12_scan_52 : decode cX12_scan 52 = .ok (.iload_n 1, 1) := by decide +kernel
theorem dX12_scan_53 : decode cX12_scan 53 = .ok (.isub, 1) := by decide +kernel
theorem dX12_scan_54 : decode cX12_scan 54 = .ok (.bipush 8, 2) := by decide +kernel
theorem dX12_scan_56 : decode cX12_scan 56 = .ok (.if_icmp .le 7, 3) := by decide +kernel
theorem dX12_scan_59 : decode cX12_scan 59 = .ok (.iconst (-1), 1) := by decide +kernel
theorem dX12_scan_60 : decode cX12_scan 60 = .ok (.goto 7, 3) := by decide +kernel
theorem dX12_scan_63 : decode cX12_scan 63 = .ok (.lload_n 3, 1) := by decide +kernel
theorem dX12_scan_64 : decode cX12_scan 64 = .ok (.invokestatic 285, 3) := by decide +kernel
theorem dX12_scan_67 : decode cX12_scan 67 = .ok (.istore 5, 2) := by decide +kernel
theorem dX12_scan_69 : decode cX12_scan 69 = .ok (.aload_n 0, 1) := by decide +kernel
theorem dX12_scan_70 : decode cX12_scan 70 = .ok (.getfield 22, 3) := by decide +kernel
theorem dX12_scan_73 : decode cX12_scan 73 = .ok (.aload_n 0, 1) := by decide +kernel
theorem dX12_scan_74 : decode cX12_scan 74 = .ok (.getfield 232, 3) := by decide +kernel
theorem dX12_scan_77 : decode cX12_scan 77 = .ok (.lload_n 3, 1) := by decide +kernel
theorem dX12_scan_78 : decode cX12_scan 78 = .ok (.lastore, 1) := by decide +kernel
theorem dX12_scan_79 : decode cX12_scan 79 = .ok (.aload_n 0, 1) := by decide +kernel
theorem dX12_scan_80 : decode cX12_scan 80 = .ok (.iload_n 2, 1) := by decide +kernel
theorem dX12_scan_81 : decode cX12_scan 81 = .ok (.iload_n 1, 1) := by decide +kernel
theorem dX12_scan_82 : decode cX12_scan 82 = .ok (.isub, 1) := by decide +kernel
theorem dX12_scan_83 : decode cX12_scan 83 = .ok (.bipush 8, 2) := by decide +kernel
theorem dX12_scan_85 : decode cX12_scan 85 = .ok (.if_icmp .le 7, 3) := by decide +kernel
theorem dX12_scan_88 : decode cX12_scan 88 = .ok (.iconst 5, 1) := by decide +kernel
theorem dX12_scan_89 : decode cX12_scan 89 = .ok (.goto 13, 3) := by decide +kernel
theorem dX12_scan_92 : decode cX12_scan 92 = .ok (.iload 5, 2) := by decide +kernel
theorem dX12_scan_94 : decode cX12_scan 94 = .ok (.ifCond .lt 7, 3) := by decide +kernel
theorem dX12_scan_97 : decode cX12_scan 97 = .ok (.iconst 3, 1) := by decide +kernel
theorem dX12_scan_98 : decode cX12_scan 98 = .ok (.goto 4, 3) := by decide +kernel
theorem dX12_scan_101 : decode cX12_scan 101 = .ok (.iconst 0, 1) := by decide +kernel
theorem dX12_scan_102 : decode cX12_scan 102 = .ok (.iload_n 1, 1) := by decide +kernel
theorem dX12_scan_103 : decode cX12_scan 103 = .ok (.iload 5, 2) := by decide +kernel
theorem dX12_scan_105 : decode cX12_scan 105 = .ok (.invokevirtual 289, 3) := by decide +kernel
theorem dX12_scan_108 : decode cX12_scan 108 = .ok (.iload_n 2, 1) := by decide +kernel
theorem dX12_scan_109 : decode cX12_scan 109 = .ok (.ireturn, 1) := by decide +kernel
theorem dX12_scan_110 : decode cX12_scan 110 = .ok (.aload_n 0, 1) := by decide +kernel
theorem dX12_scan_111 : decode cX12_scan 111 = .ok (.iload_n 1, 1) := by decide +kernel
theorem dX12_scan_112 : decode cX12_scan 112 = .ok (.invokevirtual 293, 3) := by decide +kernel
theorem dX12_scan_115 : decode cX12_scan 115 = .ok (.ifCond .eq 60, 3) := by decide +kernel
theorem dX12_scan_118 : decode cX12_scan 118 = .ok (.iconst 0, 1) := by decide +kernel
theorem dX12_scan_119 : decode cX12_scan 119 = .ok (.istore_n 3, 1) := by decide +kernel
theorem dX12_scan_120 : decode cX12_scan 120 = .ok (.aload_n 0, 1) := by decide +kernel
theorem dX12_scan_121 : decode cX12_scan 121 = .ok (.iload_n 2, 1) := by decide +kernel
theorem dX12_scan_122 : decode cX12_scan 122 = .ok (.invokevirtual 293, 3) := by decide +kernel
theorem dX12_scan_125 : decode cX12_scan 125 = .ok (.ifCond .eq 30, 3) := by decide +kernel
theorem dX12_scan_128 : decode cX12_scan 128 = .ok (.iload_n 2, 1) := by decide +kernel
theorem dX12_scan_129 : decode cX12_scan 129 = .ok (.iload_n 1, 1) := by decide +kernel
theorem dX12_scan_130 : decode cX12_scan 130 = .ok (.isub, 1) := by decide +kernel
theorem dX12_scan_131 : decode cX12_scan 131 = .ok (.iconst 4, 1) := by decide +kernel
theorem dX12_scan_132 : decode cX12_scan 132 = .ok (.if_icmp .ge 17, 3) := by decide +kernel
theorem dX12_scan_135 : decode cX12_scan 135 = .ok (.bipush 10, 2) := by decide +kernel
theorem dX12_scan_137 : decode cX12_scan 137 = .ok (.iload_n 3, 1) := by decide +kernel
theorem dX12_scan_138 : decode cX12_scan 138 = .ok (.imul, 1) := by decide +kernel
theorem dX12_scan_139 : decode cX12_scan 139 = .ok (.aload_n 0, 1) := by decide +kernel
theorem dX12_scan_140 : decode cX12_scan 140 = .ok (.iload_n 2, 1) := by decide +kernel
theorem dX12_scan_141 : decode cX12_scan 141 = .ok (.invokevirtual 228, 3) := by decide +kernel
theorem dX12_scan_144 : decode cX12_scan 144 = .ok (.iadd, 1) := by decide +kernel
theorem dX12_scan_145 : decode cX12_scan 145 = .ok (.bipush 48, 2) := by decide +kernel
theorem dX12_scan_147 : decode cX12_scan 147 = .ok (.isub, 1) := by decide +kernel
theorem dX12_scan_148 : decode cX12_scan 148 = .ok (.istore_n 3, 1) := by decide +kernel
theorem dX12_scan_149 : decode cX12_scan 149 = .ok (.iinc 2 1, 3) := by decide +kernel
theorem dX12_scan_152 : decode cX12_scan 152 = .ok (.goto (-32), 3) := by decide +kernel
theorem dX12_scan_155 : decode cX12_scan 155 = .ok (.aload_n 0, 1) := by decide +kernel
theorem dX12_scan_156 : decode cX12_scan 156 = .ok (.iload_n 2, 1) := by decide +kernel
theorem dX12_scan_157 : decode cX12_scan 157 = .ok (.iload_n 1, 1) := by decide +kernel
theorem dX12_scan_158 : decode cX12_scan 158 = .ok (.isub, 1) := by decide +kernel
theorem dX12_scan_159 : decode cX12_scan 159 = .ok (.iconst 4, 1) := by decide +kernel
theorem dX12_scan_160 : decode cX12_scan 160 = .ok (.if_icmp .le 7, 3) := by decide +kernel
theorem dX12_scan_163 : decode cX12_scan 163 = .ok (.iconst 5, 1) := by decide +kernel
theorem dX12_scan_164 : decode cX12_scan 164 = .ok (.goto 4, 3) := by decide +kernel
theorem dX12_scan_167 : decode cX12_scan 167 = .ok (.iconst 1, 1) := by decide +kernel
theorem dX12_scan_168 : decode cX12_scan 168 = .ok (.iload_n 1, 1) := by decide +kernel
theorem dX12_scan_169 : decode cX12_scan 169 = .ok (.iload_n 3, 1) := by decide +kernel
theorem dX12_scan_170 : decode cX12_scan 170 = .ok (.invokevirtual 289, 3) := by decide +kernel
theorem dX12_scan_173 : decode cX12_scan 173 = .ok (.iload_n 2, 1) := by decide +kernel
theorem dX12_scan_174 : decode cX12_scan 174 = .ok (.ireturn, 1) := by decide +kernel
theorem dX12_scan_175 : decode cX12_scan 175 = .ok (.aload_n 0, 1) := by decide +kernel
theorem dX12_scan_176 : decode cX12_scan 176 = .ok (.iload_n 1, 1) := by decide +kernel
theorem dX12_scan_177 : decode cX12_scan 177 = .ok (.invokevirtual 296, 3) := by decide +kernel
theorem dX12_scan_180 : decode cX12_scan 180 = .ok (.istore_n 3, 1) := by decide +kernel
theorem dX12_scan_181 : decode cX12_scan 181 = .ok (.aload_n 0, 1) := by decide +kernel
theorem dX12_scan_182 : decode cX12_scan 182 = .ok (.iload_n 3, 1) := by decide +kernel
theorem dX12_scan_183 : decode cX12_scan 183 = .ok (.ifCond .ne 7, 3) := by decide +kernel
theorem dX12_scan_186 : decode cX12_scan 186 = .ok (.iconst 5, 1) := by decide +kernel
theorem dX12_scan_187 : decode cX12_scan 187 = .ok (.goto 4, 3) := by decide +kernel
theorem dX12_scan_190 : decode cX12_scan 190 = .ok (.iconst 2, 1) := by decide +kernel
theorem dX12_scan_191 : decode cX12_scan 191 = .ok (.iload_n 1, 1) := by decide +kernel
theorem dX12_scan_192 : decode cX12_scan 192 = .ok (.iload_n 3, 1) := by decide +kernel
theorem dX12_scan_193 : decode cX12_scan 193 = .ok (.invokevirtual 289, 3) := by decide +kernel
theorem dX12_scan_196 : decode cX12_scan 196 = .ok (.iload_n 1, 1) := by decide +kernel
theorem dX12_scan_197 : decode cX12_scan 197 = .ok (.iload_n 3, 1) := by decide +kernel
theorem dX12_scan_198 : decode cX12_scan 198 = .ok (.sipush 300, 3) := by decide +kernel
theorem dX12_scan_201 : decode cX12_scan 201 = .ok (.if_icmp .lt 7, 3) := by decide +kernel
theorem dX12_scan_204 : decode cX12_scan 204 = .ok (.iconst 2, 1) := by decide +kernel
theorem dX12_scan_205 : decode cX12_scan 205 = .ok (.goto 4, 3) := by decide +kernel
theorem dX12_scan_208 : decode cX12_scan 208 = .ok (.iconst 1, 1) := by decide +kernel
theorem dX12_scan_209 : decode cX12_scan 209 = .ok (.iadd, 1) := by decide +kernel
theorem dX12_scan_210 : decode cX12_scan 210 = .ok (.ireturn, 1) := by decide +kernel
theorem dX12_scanAll_0 : decode cX12_scanAll 0 = .ok (.aload_n 0, 1) := by decide +kernel
theorem dX12_scanAll_1 : decode cX12_scanAll 1 = .ok (.iconst 0, 1) := by decide +kernel
theorem dX12_scanAll_2 : decode cX12_scanAll 2 = .ok (.putfield 232, 3) := by decide +kernel
theorem dX12_scanAll_5 : decode cX12_scanAll 5 = .ok (.iconst 0, 1) := by decide +kernel
theorem dX12_scanAll_6 : decode cX12_scanAll 6 = .ok (.istore_n 1, 1) := by decide +kernel
theorem dX12_scanAll_7 : decode cX12_scanAll 7 = .ok (.iconst 1, 1) := by decide +kernel
theorem dX12_scanAll_8 : decode cX12_scanAll 8 = .ok (.istore_n 2, 1) := by decide +kernel
theorem dX12_scanAll_9 : decode cX12_scanAll 9 = .ok (.iload_n 1, 1) := by decide +kernel
theorem dX12_scanAll_10 : decode cX12_scanAll 10 = .ok (.aload_n 0, 1) := by decide +kernel
theorem dX12_scanAll_11 : decode cX12_scanAll 11 = .ok (.getfield 222, 3) := by decide +kernel
theorem dX12_scanAll_14 : decode cX12_scanAll 14 = .ok (.if_icmp .ge 73, 3) := by decide +kernel
theorem dX12_scanAll_17 : decode cX12_scanAll 17 = .ok (.iload_n 2, 1) := by decide +kernel
theorem dX12_scanAll_18 : decode cX12_scanAll 18 = .ok (.ifCond .eq 69, 3) := by decide +kernel
theorem dX12_scanAll_21 : decode cX12_scanAll 21 = .ok (.aload_n 0, 1) := by decide +kernel
theorem dX12_scanAll_22 : decode cX12_scanAll 22 = .ok (.iload_n 1, 1) := by decide +kernel
theorem dX12_scanAll_23 : decode cX12_scanAll 23 = .ok (.invokevirtual 228, 3) := by decide +kernel
theorem dX12_scanAll_26 : decode cX12_scanAll 26 = .ok (.istore_n 3, 1) := by decide +kernel
theorem dX12_scanAll_27 : decode cX12_scanAll 27 = .ok (.iload_n 3, 1) := by decide +kernel
theorem dX12_scanAll_28 : decode cX12_scanAll 28 = .ok (.bipush 32, 2) := by decide +kernel
theorem dX12_scanAll_30 : decode cX12_scanAll 30 = .ok (.if_icmp .eq 21, 3) := by decide +kernel
theorem dX12_scanAll_33 : decode cX12_scanAll 33 = .ok (.iload_n 3, 1) := by decide +kernel
theorem dX12_scanAll_34 : decode cX12_scanAll 34 = .ok (.bipush 9, 2) := by decide +kernel
theorem dX12_scanAll_36 : decode cX12_scanAll 36 = .ok (.if_icmp .eq 15, 3) := by decide +kernel
theorem dX12_scanAll_39 : decode cX12_scanAll 39 = .ok (.iload_n 3, 1) := by decide +kernel
theorem dX12_scanAll_40 : decode cX12_scanAll 40 = .ok (.bipush 10, 2) := by decide +kernel
theorem dX12_scanAll_42 : decode cX12_scanAll 42 = .ok (.if_icmp .eq 9, 3) := by decide +kernel
theorem dX12_scanAll_45 : decode cX12_scanAll 45 = .ok (.iload_n 3, 1) := by decide +kernel
theorem dX12_scanAll_46 : decode cX12_scanAll 46 = .ok (.bipush 13, 2) := by decide +kernel
theorem dX12_scanAll_48 : decode cX12_scanAll 48 = .ok (.if_icmp .ne 9, 3) := by decide +kernel
theorem dX12_scanAll_51 : decode cX12_scanAll 51 = .ok (.iinc 1 1, 3) := by decide +kernel
theorem dX12_scanAll_54 : decode cX12_scanAll 54 = .ok (.goto (-45), 3) := by decide +kernel
theorem dX12_scanAll_57 : decode cX12_scanAll 57 = .ok (.aload_n 0, 1) := by decide +kernel
theorem dX12_scanAll_58 : decode cX12_scanAll 58 = .ok (.iload_n 1, 1) := by decide +kernel
theorem dX12_scanAll_59 : decode cX12_scanAll 59 = .ok (.invokevirtual 299, 3) := by decide +kernel
theorem dX12_scanAll_62 : decode cX12_scanAll 62 = .ok (.istore_n 1, 1) := by decide +kernel
theorem dX12_scanAll_63 : decode cX12_scanAll 63 = .ok (.aload_n 0, 1) := by decide +kernel
theorem dX12_scanAll_64 : decode cX12_scanAll 64 = .ok (.getfield 13, 3) := by decide +kernel
theorem dX12_scanAll_67 : decode cX12_scanAll 67 = .ok (.aload_n 0, 1) := by decide +kernel
theorem dX12_scanAll_68 : decode cX12_scanAll 68 = .ok (.getfield 232, 3) := by decide +kernel
theorem dX12_scanAll_71 : decode cX12_scanAll 71 = .ok (.iconst 1, 1) := by decide +kernel
theorem dX12_scanAll_72 : decode cX12_scanAll 72 = .ok (.isub, 1) := by decide +kernel
theorem dX12_scanAll_73 : decode cX12_scanAll 73 = .ok (.iaload, 1) := by decide +kernel
theorem dX12_scanAll_74 : decode cX12_scanAll 74 = .ok (.iconst 5, 1) := by decide +kernel
theorem dX12_scanAll_75 : decode cX12_scanAll 75 = .ok (.if_icmp .eq 7, 3) := by decide +kernel
theorem dX12_scanAll_78 : decode cX12_scanAll 78 = .ok (.iconst 1, 1) := by decide +kernel
theorem dX12_scanAll_79 : decode cX12_scanAll 79 = .ok (.goto 4, 3) := by decide +kernel
theorem dX12_scanAll_82 : decode cX12_scanAll 82 = .ok (.iconst 0, 1) := by decide +kernel
theorem dX12_scanAll_83 : decode cX12_scanAll 83 = .ok (.istore_n 2, 1) := by decide +kernel
theorem dX12_scanAll_84 : decode cX12_scanAll 84 = .ok (.goto (-75), 3) := by decide +kernel
theorem dX12_scanAll_87 : decode cX12_scanAll 87 = .ok (.iload_n 2, 1) := by decide +kernel
theorem dX12_scanAll_88 : decode cX12_scanAll 88 = .ok (.ifCond .eq 13, 3) := by decide +kernel
theorem dX12_scanAll_91 : decode cX12_scanAll 91 = .ok (.aload_n 0, 1) := by decide +kernel
theorem dX12_scanAll_92 : decode cX12_scanAll 92 = .ok (.iconst 4, 1) := by decide +kernel
theorem dX12_scanAll_93 : decode cX12_scanAll 93 = .ok (.aload_n 0, 1) := by decide +kernel
theorem dX12_scanAll_94 : decode cX12_scanAll 94 = .ok (.getfield 222, 3) := by decide +kernel
theorem dX12_scanAll_97 : decode cX12_scanAll 97 = .ok (.iconst 0, 1) := by decide +kernel
theorem dX12_scanAll_98 : decode cX12_scanAll 98 = .ok (.invokevirtual 289, 3) := by decide +kernel
theorem dX12_scanAll_101 : decode cX12_scanAll 101 = .ok (.return_, 1) := by decide +kernel
theorem dX12_wrong_0 : decode cX12_wrong 0 = .ok (.aload_n 0, 1) := by decide +kernel
theorem dX12_wrong_1 : decode cX12_wrong 1 = .ok (.iload_n 1, 1) := by decide +kernel
theorem dX12_wrong_2 : decode cX12_wrong 2 = .ok (.putfield 302, 3) := by decide +kernel
theorem dX12_wrong_5 : decode cX12_wrong 5 = .ok (.aload_n 0, 1) := by decide +kernel
theorem dX12_wrong_6 : decode cX12_wrong 6 = .ok (.aload_n 0, 1) := by decide +kernel
theorem dX12_wrong_7 : decode cX12_wrong 7 = .ok (.getfield 16, 3) := by decide +kernel
theorem dX12_wrong_10 : decode cX12_wrong 10 = .ok (.aload_n 0, 1) := by decide +kernel
theorem dX12_wrong_11 : decode cX12_wrong 11 = .ok (.getfield 305, 3) := by decide +kernel
theorem dX12_wrong_14 : decode cX12_wrong 14 = .ok (.iaload, 1) := by decide +kernel
theorem dX12_wrong_15 : decode cX12_wrong 15 = .ok (.putfield 26, 3) := by decide +kernel
theorem dX12_wrong_18 : decode cX12_wrong 18 = .ok (.iconst 0, 1) := by decide +kernel
theorem dX12_wrong_19 : decode cX12_wrong 19 = .ok (.ireturn, 1) := by decide +kernel
theorem dX12_tells_0 : decode cX12_tells 0 = .ok (.aload_n 0, 1) := by decide +kernel
theorem dX12_tells_1 : decode cX12_tells 1 = .ok (.getfield 16, 3) := by decide +kernel
theorem dX12_tells_4 : decode cX12_tells 4 = .ok (.iload_n 2, 1) := by decide +kernel
theorem dX12_tells_5 : decode cX12_tells 5 = .ok (.iaload, 1) := by decide +kernel
theorem dX12_tells_6 : decode cX12_tells 6 = .ok (.istore_n 3, 1) := by decide +kernel
theorem dX12_tells_7 : decode cX12_tells 7 = .ok (.aload_n 0, 1) := by decide +kernel
theorem dX12_tells_8 : decode cX12_tells 8 = .ok (.getfield 308, 3) := by decide +kernel
theorem dX12_tells_11 : decode cX12_tells 11 = .ok (.ifCond .eq 28, 3) := by decide +kernel
theorem dX12_tells_14 : decode cX12_tells 14 = .ok (.iload_n 3, 1) := by decide +kernel
theorem dX12_tells_15 : decode cX12_tells 15 = .ok (.aload_n 0, 1) := by decide +kernel
theorem dX12_tells_16 : decode cX12_tells 16 = .ok (.getfield 311, 3) := by decide +kernel
theorem dX12_tells_19 : decode cX12_tells 19 = .ok (.if_icmp .gt 19, 3) := by decide +kernel
theorem dX12_tells_22 : decode cX12_tells 22 = .ok (.iload_n 3, 1) := by decide +kernel
theorem dX12_tells_23 : decode cX12_tells 23 = .ok (.aload_n 0, 1) := by decide +kernel
theorem dX12_tells_24 : decode cX12_tells 24 = .ok (.getfield 311, 3) := by decide +kernel
theorem dX12_tells_27 : decode cX12_tells 27 = .ok (.if_icmp .ne 12, 3) := by decide +kernel
theorem dX12_tells_30 : decode cX12_tells 30 = .ok (.iload_n 1, 1) := by decide +kernel
theorem dX12_tells_31 : decode cX12_tells 31 = .ok (.aload_n 0, 1) := by decide +kernel
theorem dX12_tells_32 : decode cX12_tells 32 = .ok (.getfield 308, 3) := by decide +kernel
theorem dX12_tells_35 : decode cX12_tells 35 = .ok (.if_icmp .lt 4, 3) := by decide +kernel
theorem dX12_tells_38 : decode cX12_tells 38 = .ok (.return_, 1) := by decide +kernel
theorem dX12_tells_39 : decode cX12_tells 39 = .ok (.aload_n 0, 1) := by decide +kernel
theorem dX12_tells_40 : decode cX12_tells 40 = .ok (.iload_n 1, 1) := by decide +kernel
theorem dX12_tells_41 : decode cX12_tells 41 = .ok (.putfield 308, 3) := by decide +kernel
theorem dX12_tells_44 : decode cX12_tells 44 = .ok (.aload_n 0, 1) := by decide +kernel
theorem dX12_tells_45 : decode cX12_tells 45 = .ok (.iload_n 3, 1) := by decide +kernel
theorem dX12_tells_46 : decode cX12_tells 46 = .ok (.putfield 311, 3) := by decide +kernel
theorem dX12_tells_49 : decode cX12_tells 49 = .ok (.return_, 1) := by decide +kernel
theorem dX12_pass_0 : decode cX12_pass 0 = .ok (.aload_n 0, 1) := by decide +kernel
theorem dX12_pass_1 : decode cX12_pass 1 = .ok (.getfield 305, 3) := by decide +kernel
theorem dX12_pass_4 : decode cX12_pass 4 = .ok (.sipush 400, 3) := by decide +kernel
theorem dX12_pass_7 : decode cX12_pass 7 = .ok (.if_icmp .lt 9, 3) := by decide +kernel
theorem dX12_pass_10 : decode cX12_pass 10 = .ok (.aload_n 0, 1) := by decide +kernel
theorem dX12_pass_11 : decode cX12_pass 11 = .ok (.iconst 2, 1) := by decide +kernel
theorem dX12_pass_12 : decode cX12_pass 12 = .ok (.invokevirtual 314, 3) := by decide +kernel
theorem dX12_pass_15 : decode cX12_pass 15 = .ok (.ireturn, 1) := by decide +kernel
theorem dX12_pass_16 : decode cX12_pass 16 = .ok (.aload_n 0, 1) := by decide +kernel
theorem dX12_pass_17 : decode cX12_pass 17 = .ok (.dup, 1) := by decide +kernel
theorem dX12_pass_18 : decode cX12_pass 18 = .ok (.getfield 305, 3) := by decide +kernel
theorem dX12_pass_21 : decode cX12_pass 21 = .ok (.iconst 1, 1) := by decide +kernel
theorem dX12_pass_22 : decode cX12_pass 22 = .ok (.iadd, 1) := by decide +kernel
theorem dX12_pass_23 : decode cX12_pass 23 = .ok (.putfield 305, 3) := by decide +kernel
theorem dX12_pass_26 : decode cX12_pass 26 = .ok (.iconst 1, 1) := by decide +kernel
theorem dX12_pass_27 : decode cX12_pass 27 = .ok (.ireturn, 1) := by decide +kernel
theorem dX12_isSign_0 : decode cX12_isSign 0 = .ok (.aload_n 0, 1) := by decide +kernel
theorem dX12_isSign_1 : decode cX12_isSign 1 = .ok (.getfield 13, 3) := by decide +kernel
theorem dX12_isSign_4 : decode cX12_isSign 4 = .ok (.aload_n 0, 1) := by decide +kernel
theorem dX12_isSign_5 : decode cX12_isSign 5 = .ok (.getfield 305, 3) := by decide +kernel
theorem dX12_isSign_8 : decode cX12_isSign 8 = .ok (.iaload, 1) := by decide +kernel
theorem dX12_isSign_9 : decode cX12_isSign 9 = .ok (.iconst 2, 1) := by decide +kernel
theorem dX12_isSign_10 : decode cX12_isSign 10 = .ok (.if_icmp .ne 20, 3) := by decide +kernel
theorem dX12_isSign_13 : decode cX12_isSign 13 = .ok (.aload_n 0, 1) := by decide +kernel
theorem dX12_isSign_14 : decode cX12_isSign 14 = .ok (.getfield 19, 3) := by decide +kernel
theorem dX12_isSign_17 : decode cX12_isSign 17 = .ok (.aload_n 0, 1) := by decide +kernel
theorem dX12_isSign_18 : decode cX12_isSign 18 = .ok (.getfield 305, 3) := by decide +kernel
theorem dX12_isSign_21 : decode cX12_isSign 21 = .ok (.iaload, 1) := by decide +kernel
theorem dX12_isSign_22 : decode cX12_isSign 22 = .ok (.iload_n 1, 1) := by decide +kernel
theorem dX12_isSign_23 : decode cX12_isSign 23 = .ok (.if_icmp .ne 7, 3) := by decide +kernel
theorem dX12_isSign_26 : decode cX12_isSign 26 = .ok (.iconst 1, 1) := by decide +kernel
theorem dX12_isSign_27 : decode cX12_isSign 27 = .ok (.goto 4, 3) := by decide +kernel
theorem dX12_isSign_30 : decode cX12_isSign 30 = .ok (.iconst 0, 1) := by decide +kernel
theorem dX12_isSign_31 : decode cX12_isSign 31 = .ok (.ireturn, 1) := by decide +kernel
theorem dX12_isWord_0 : decode cX12_isWord 0 = .ok (.aload_n 0, 1) := by decide +kernel
theorem dX12_isWord_1 : decode cX12_isWord 1 = .ok (.getfield 13, 3) := by decide +kernel
theorem dX12_isWord_4 : decode cX12_isWord 4 = .ok (.aload_n 0, 1) := by decide +kernel
theorem dX12_isWord_5 : decode cX12_isWord 5 = .ok (.getfield 305, 3) := by decide +kernel
theorem dX12_isWord_8 : decode cX12_isWord 8 = .ok (.iaload, 1) := by decide +kernel
theorem dX12_isWord_9 : decode cX12_isWord 9 = .ok (.iconst 3, 1) := by decide +kernel
theorem dX12_isWord_10 : decode cX12_isWord 10 = .ok (.if_icmp .ne 20, 3) := by decide +kernel
theorem dX12_isWord_13 : decode cX12_isWord 13 = .ok (.aload_n 0, 1) := by decide +kernel
theorem dX12_isWord_14 : decode cX12_isWord 14 = .ok (.getfield 19, 3) := by decide +kernel
theorem dX12_isWord_17 : decode cX12_isWord 17 = .ok (.aload_n 0, 1) := by decide +kernel
theorem dX12_isWord_18 : decode cX12_isWord 18 = .ok (.getfield 305, 3) := by decide +kernel
theorem dX12_isWord_21 : decode cX12_isWord 21 = .ok (.iaload, 1) := by decide +kernel
theorem dX12_isWord_22 : decode cX12_isWord 22 = .ok (.iload_n 1, 1) := by decide +kernel
theorem dX12_isWord_23 : decode cX12_isWord 23 = .ok (.if_icmp .ne 7, 3) := by decide +kernel
theorem dX12_isWord_26 : decode cX12_isWord 26 = .ok (.iconst 1, 1) := by decide +kernel
theorem dX12_isWord_27 : decode cX12_isWord 27 = .ok (.goto 4, 3) := by decide +kernel
theorem dX12_isWord_30 : decode cX12_isWord 30 = .ok (.iconst 0, 1) := by decide +kernel
theorem dX12_isWord_31 : decode cX12_isWord 31 = .ok (.ireturn, 1) := by decide +kernel
theorem dX12_takes_0 : decode cX12_takes 0 = .ok (.aload_n 0, 1) := by decide +kernel
theorem dX12_takes_1 : decode cX12_takes 1 = .ok (.getfield 13, 3) := by decide +kernel
theorem dX12_takes_4 : decode cX12_takes 4 = .ok (.aload_n 0, 1) := by decide +kernel
theorem dX12_takes_5 : decode cX12_takes 5 = .ok (.getfield 305, 3) := by decide +kernel
theorem dX12_takes_8 : decode cX12_takes 8 = .ok (.iaload, 1) := by decide +kernel
theorem dX12_takes_9 : decode cX12_takes 9 = .ok (.iload_n 1, 1) := by decide +kernel
theorem dX12_takes_10 : decode cX12_takes 10 = .ok (.if_icmp .ne 10, 3) := by decide +kernel
theorem dX12_takes_13 : decode cX12_takes 13 = .ok (.aload_n 0, 1) := by decide +kernel
theorem dX12_takes_14 : decode cX12_takes 14 = .ok (.invokevirtual 317, 3) := by decide +kernel
theorem dX12_takes_17 : decode cX12_takes 17 = .ok (.goto 8, 3) := by decide +kernel
theorem dX12_takes_20 : decode cX12_takes 20 = .ok (.aload_n 0, 1) := by decide +kernel
theorem dX12_takes_21 : decode cX12_takes 21 = .ok (.iconst 1, 1) := by decide +kernel
theorem dX12_takes_22 : decode cX12_takes 22 = .ok (.invokevirtual 314, 3) := by decide +kernel
theorem dX12_takes_25 : decode cX12_takes 25 = .ok (.ireturn, 1) := by decide +kernel
theorem dX12_takesInt_0 : decode cX12_takesInt 0 = .ok (.aload_n 0, 1) := by decide +kernel
theorem dX12_takesInt_1 : decode cX12_takesInt 1 = .ok (.getfield 305, 3) := by decide +kernel
theorem dX12_takesInt_4 : decode cX12_takesInt 4 = .ok (.istore_n 3, 1) := by decide +kernel
theorem dX12_takesInt_5 : decode cX12_takesInt 5 = .ok (.aload_n 0, 1) := by decide +kernel
theorem dX12_takesInt_6 : decode cX12_takesInt 6 = .ok (.iconst 1, 1) := by decide +kernel
theorem dX12_takesInt_7 : decode cX12_takesInt 7 = .ok (.invokevirtual 321, 3) := by decide +kernel
theorem dX12_takesInt_10 : decode cX12_takesInt 10 = .ok (.ifCond .ne 5, 3) := by decide +kernel
theorem dX12_takesInt_13 : decode cX12_takesInt 13 = .ok (.iconst 0, 1) := by decide +kernel
theorem dX12_takesInt_14 : decode cX12_takesInt 14 = .ok (.ireturn, 1) := by decide +kernel
theorem dX12_takesInt_15 : decode cX12_takesInt 15 = .ok (.aload_n 0, 1) := by decide +kernel
theorem dX12_takesInt_16 : decode cX12_takesInt 16 = .ok (.aload_n 0, 1) := by decide +kernel
theorem dX12_takesInt_17 : decode cX12_takesInt 17 = .ok (.getfield 19, 3) := by decide +kernel
theorem dX12_takesInt_20 : decode cX12_takesInt 20 = .ok (.iload_n 3, 1) := by decide +kernel
theorem dX12_takesInt_21 : decode cX12_takesInt 21 = .ok (.iaload, 1) := by decide +kernel
theorem dX12_takesInt_22 : decode cX12_takesInt 22 = .ok (.putfield 324, 3) := by decide +kernel
theorem dX12_takesInt_25 : decode cX12_takesInt 25 = .ok (.aload_n 0, 1) := by decide +kernel
theorem dX12_takesInt_26 : decode cX12_takesInt 26 = .ok (.getfield 324, 3) := by decide +kernel
theorem dX12_takesInt_29 : decode cX12_takesInt 29 = .ok (.iload_n 1, 1) := by decide +kernel
theorem dX12_takesInt_30 : decode cX12_takesInt 30 = .ok (.if_icmp .lt 11, 3) := by decide +kernel
theorem dX12_takesInt_33 : decode cX12_takesInt 33 = .ok (.aload_n 0, 1) := by decide +kernel
theorem dX12_takesInt_34 : decode cX12_takesInt 34 = .ok (.getfield 324, 3) := by decide +kernel
theorem dX12_takesInt_37 : decode cX12_takesInt 37 = .ok (.iload_n 2, 1) := by decide +kernel
theorem dX12_takesInt_38 : decode cX12_takesInt 38 = .ok (.if_icmp .le 9, 3) := by decide +kernel
theorem dX12_takesInt_41 : decode cX12_takesInt 41 = .ok (.aload_n 0, 1) := by decide +kernel
theorem dX12_takesInt_42 : decode cX12_takesInt 42 = .ok (.iconst 5, 1) := by decide +kernel
theorem dX12_takesInt_43 : decode cX12_takesInt 43 = .ok (.iload_n 3, 1) := by decide +kernel
theorem dX12_takesInt_44 : decode cX12_takesInt 44 = .ok (.invokevirtual 327, 3) := by decide +kernel
theorem dX12_takesInt_47 : decode cX12_takesInt 47 = .ok (.iconst 1, 1) := by decide +kernel
theorem dX12_takesInt_48 : decode cX12_takesInt 48 = .ok (.ireturn, 1) := by decide +kernel
theorem dX12_emit_0 : decode cX12_emit 0 = .ok (.aload_n 0, 1) := by decide +kernel
theorem dX12_emit_1 : decode cX12_emit 1 = .ok (.getfield 100, 3) := by decide +kernel
theorem dX12_emit_4 : decode cX12_emit 4 = .ok (.sipush 500, 3) := by decide +kernel
theorem dX12_emit_7 : decode cX12_emit 7 = .ok (.aload_n 0, 1) := by decide +kernel
theorem dX12_emit_8 : decode cX12_emit 8 = .ok (.getfield 97, 3) := by decide +kernel
theorem dX12_emit_11 : decode cX12_emit 11 = .ok (.iconst 1, 1) := by decide +kernel
theorem dX12_emit_12 : decode cX12_emit 12 = .ok (.iaload, 1) := by decide +kernel
theorem dX12_emit_13 : decode cX12_emit 13 = .ok (.iadd, 1) := by decide +kernel
theorem dX12_emit_14 : decode cX12_emit 14 = .ok (.iload_n 1, 1) := by decide +kernel
theorem dX12_emit_15 : decode cX12_emit 15 = .ok (.iastore, 1) := by decide +kernel
theorem dX12_emit_16 : decode cX12_emit 16 = .ok (.aload_n 0, 1) := by decide +kernel
theorem dX12_emit_17 : decode cX12_emit 17 = .ok (.getfield 103, 3) := by decide +kernel
theorem dX12_emit_20 : decode cX12_emit 20 = .ok (.sipush 500, 3) := by decide +kernel
theorem dX12_emit_23 : decode cX12_emit 23 = .ok (.aload_n 0, 1) := by decide +kernel
theorem dX12_emit_24 : decode cX12_emit 24 = .ok (.getfield 97, 3) := by decide +kernel
theorem dX12_emit_27 : decode cX12_emit 27 = .ok (.iconst 1, 1) := by decide +kernel
theorem dX12_emit_28 : decode cX12_emit 28 = .ok (.iaload, 1) := by decide +kernel
theorem dX12_emit_29 : decode cX12_emit 29 = .ok (.iadd, 1) := by decide +kernel
theorem dX12_emit_30 : decode cX12_emit 30 = .ok (.iload_n 2, 1) := by decide +kernel
theorem dX12_emit_31 : decode cX12_emit 31 = .ok (.iastore, 1) := by decide +kernel
theorem dX12_emit_32 : decode cX12_emit 32 = .ok (.aload_n 0, 1) := by decide +kernel
theorem dX12_emit_33 : decode cX12_emit 33 = .ok (.getfield 97, 3) := by decide +kernel
theorem dX12_emit_36 : decode cX12_emit 36 = .ok (.iconst 1, 1) := by decide +kernel
theorem dX12_emit_37 : decode cX12_emit 37 = .ok (.dup2, 1) := by decide +kernel
theorem dX12_emit_38 : decode cX12_emit 38 = .ok (.iaload, 1) := by decide +kernel
theorem dX12_emit_39 : decode cX12_emit 39 = .ok (.iconst 1, 1) := by decide +kernel
theorem dX12_emit_40 : decode cX12_emit 40 = .ok (.iadd, 1) := by decide +kernel
theorem dX12_emit_41 : decode cX12_emit 41 = .ok (.iastore, 1) := by decide +kernel
theorem dX12_emit_42 : decode cX12_emit 42 = .ok (.return_, 1) := by decide +kernel
theorem dX12_rank_0 : decode cX12_rank 0 = .ok (.iload_n 0, 1) := by decide +kernel
theorem dX12_rank_1 : decode cX12_rank 1 = .ok (.iconst 3, 1) := by decide +kernel
theorem dX12_rank_2 : decode cX12_rank 2 = .ok (.if_icmp .le 7, 3) := by decide +kernel
theorem dX12_rank_5 : decode cX12_rank 5 = .ok (.iconst 2, 1) := by decide +kernel
theorem dX12_rank_6 : decode cX12_rank 6 = .ok (.goto 13, 3) := by decide +kernel
theorem dX12_rank_9 : decode cX12_rank 9 = .ok (.iload_n 0, 1) := by decide +kernel
theorem dX12_rank_10 : decode cX12_rank 10 = .ok (.iconst 1, 1) := by decide +kernel
theorem dX12_rank_11 : decode cX12_rank 11 = .ok (.if_icmp .le 7, 3) := by decide +kernel
theorem dX12_rank_14 : decode cX12_rank 14 = .ok (.iconst 1, 1) := by decide +kernel
theorem dX12_rank_15 : decode cX12_rank 15 = .ok (.goto 4, 3) := by decide +kernel
theorem dX12_rank_18 : decode cX12_rank 18 = .ok (.iconst 0, 1) := by decide +kernel
theorem dX12_rank_19 : decode cX12_rank 19 = .ok (.ireturn, 1) := by decide +kernel
theorem dX12_reduce_0 : decode cX12_reduce 0 = .ok (.aload_n 0, 1) := by decide +kernel
theorem dX12_reduce_1 : decode cX12_reduce 1 = .ok (.getfield 331, 3) := by decide +kernel
theorem dX12_reduce_4 : decode cX12_reduce 4 = .ok (.iload_n 2, 1) := by decide +kernel
theorem dX12_reduce_5 : decode cX12_reduce 5 = .ok (.if_icmp .le 48, 3) := by decide +kernel
theorem dX12_reduce_8 : decode cX12_reduce 8 = .ok (.aload_n 0, 1) := by decide +kernel
theorem dX12_reduce_9 : decode cX12_reduce 9 = .ok (.getfield 154, 3) := by decide +kernel
theorem dX12_reduce_12 : decode cX12_reduce 12 = .ok (.aload_n 0, 1) := by decide +kernel
theorem dX12_reduce_13 : decode cX12_reduce 13 = .ok (.getfield 331, 3) := by decide +kernel
theorem dX12_reduce_16 : decode cX12_reduce 16 = .ok (.iconst 1, 1) := by decide +kernel
theorem dX12_reduce_17 : decode cX12_reduce 17 = .ok (.isub, 1) := by decide +kernel
theorem dX12_reduce_18 : decode cX12_reduce 18 = .ok (.iaload, 1) := by decide +kernel
theorem dX12_reduce_19 : decode cX12_reduce 19 = .ok (.invokestatic 334, 3) := by decide +kernel
theorem dX12_reduce_22 : decode cX12_reduce 22 = .ok (.iload_n 1, 1) := by decide +kernel
theorem dX12_reduce_23 : decode cX12_reduce 23 = .ok (.if_icmp .lt 30, 3) := by decide +kernel
theorem dX12_reduce_26 : decode cX12_reduce 26 = .ok (.aload_n 0, 1) := by decide +kernel
theorem dX12_reduce_27 : decode cX12_reduce 27 = .ok (.dup, 1) := by decide +kernel
theorem dX12_reduce_28 : decode cX12_reduce 28 = .ok (.getfield 331, 3) := by decide +kernel
theorem dX12_reduce_31 : decode cX12_reduce 31 = .ok (.iconst 1, 1) := by decide +kernel
theorem dX12_reduce_32 : decode cX12_reduce 32 = .ok (.isub, 1) := by decide +kernel
theorem dX12_reduce_33 : decode cX12_reduce 33 = .ok (.putfield 331, 3) := by decide +kernel
theorem dX12_reduce_36 : decode cX12_reduce 36 = .ok (.aload_n 0, 1) := by decide +kernel
theorem dX12_reduce_37 : decode cX12_reduce 37 = .ok (.aload_n 0, 1) := by decide +kernel
theorem dX12_reduce_38 : decode cX12_reduce 38 = .ok (.getfield 154, 3) := by decide +kernel
theorem dX12_reduce_41 : decode cX12_reduce 41 = .ok (.aload_n 0, 1) := by decide +kernel
theorem dX12_reduce_42 : decode cX12_reduce 42 = .ok (.getfield 331, 3) := by decide +kernel
theorem dX12_reduce_45 : decode cX12_reduce 45 = .ok (.iaload, 1) := by decide +kernel
theorem dX12_reduce_46 : decode cX12_reduce 46 = .ok (.iconst 0, 1) := by decide +kernel
theorem dX12_reduce_47 : decode cX12_reduce 47 = .ok (.invokevirtual 337, 3) := by decide +kernel
theorem dX12_reduce_50 : decode cX12_reduce 50 = .ok (.goto (-50), 3) := by decide +kernel
theorem dX12_reduce_53 : decode cX12_reduce 53 = .ok (.return_, 1) := by decide +kernel
theorem dX12_await_0 : decode cX12_await 0 = .ok (.aload_n 0, 1) := by decide +kernel
theorem dX12_await_1 : decode cX12_await 1 = .ok (.getfield 154, 3) := by decide +kernel
theorem dX12_await_4 : decode cX12_await 4 = .ok (.aload_n 0, 1) := by decide +kernel
theorem dX12_await_5 : decode cX12_await 5 = .ok (.getfield 331, 3) := by decide +kernel
theorem dX12_await_8 : decode cX12_await 8 = .ok (.iload_n 1, 1) := by decide +kernel
theorem dX12_await_9 : decode cX12_await 9 = .ok (.iastore, 1) := by decide +kernel
theorem dX12_await_10 : decode cX12_await 10 = .ok (.aload_n 0, 1) := by decide +kernel
theorem dX12_await_11 : decode cX12_await 11 = .ok (.dup, 1) := by decide +kernel
theorem dX12_await_12 : decode cX12_await 12 = .ok (.getfield 331, 3) := by decide +kernel
theorem dX12_await_15 : decode cX12_await 15 = .ok (.iconst 1, 1) := by decide +kernel
theorem dX12_await_16 : decode cX12_await 16 = .ok (.iadd, 1) := by decide +kernel
theorem dX12_await_17 : decode cX12_await 17 = .ok (.putfield 331, 3) := by decide +kernel
theorem dX12_await_20 : decode cX12_await 20 = .ok (.return_, 1) := by decide +kernel
theorem dX12_variableOf_0 : decode cX12_variableOf 0 = .ok (.iload_n 0, 1) := by decide +kernel
theorem dX12_variableOf_1 : decode cX12_variableOf 1 = .ok (.bipush 12, 2) := by decide +kernel
theorem dX12_variableOf_3 : decode cX12_variableOf 3 = .ok (.if_icmp .le 10, 3) := by decide +kernel
theorem dX12_variableOf_6 : decode cX12_variableOf 6 = .ok (.iload_n 0, 1) := by decide +kernel
theorem dX12_variableOf_7 : decode cX12_variableOf 7 = .ok (.bipush 13, 2) := by decide +kernel
theorem dX12_variableOf_9 : decode cX12_variableOf 9 = .ok (.isub, 1) := by decide +kernel
theorem dX12_variableOf_10 : decode cX12_variableOf 10 = .ok (.goto 4, 3) := by decide +kernel
theorem dX12_variableOf_13 : decode cX12_variableOf 13 = .ok (.iconst (-1), 1) := by decide +kernel
theorem dX12_variableOf_14 : decode cX12_variableOf 14 = .ok (.ireturn, 1) := by decide +kernel
theorem dX12_expr_0 : decode cX12_expr 0 = .ok (.aload_n 0, 1) := by decide +kernel
theorem dX12_expr_1 : decode cX12_expr 1 = .ok (.aload_n 0, 1) := by decide +kernel
theorem dX12_expr_2 : decode cX12_expr 2 = .ok (.getfield 97, 3) := by decide +kernel
theorem dX12_expr_5 : decode cX12_expr 5 = .ok (.iconst 1, 1) := by decide +kernel
theorem dX12_expr_6 : decode cX12_expr 6 = .ok (.iaload, 1) := by decide +kernel
theorem dX12_expr_7 : decode cX12_expr 7 = .ok (.putfield 340, 3) := by decide +kernel
theorem dX12_expr_10 : decode cX12_expr 10 = .ok (.aload_n 0, 1) := by decide +kernel
theorem dX12_expr_11 : decode cX12_expr 11 = .ok (.iconst 0, 1) := by decide +kernel
theorem dX12_expr_12 : decode cX12_expr 12 = .ok (.putfield 331, 3) := by decide +kernel
theorem dX12_expr_15 : decode cX12_expr 15 = .ok (.iconst 0, 1) := by decide +kernel
theorem dX12_expr_16 : decode cX12_expr 16 = .ok (.istore_n 1, 1) := by decide +kernel
theorem dX12_expr_17 : decode cX12_expr 17 = .ok (.iconst 1, 1) := by decide +kernel
theorem dX12_expr_18 : decode cX12_expr 18 = .ok (.istore_n 2, 1) := by decide +kernel
theorem dX12_expr_19 : decode cX12_expr 19 = .ok (.iconst 1, 1) := by decide +kernel
theorem dX12_expr_20 : decode cX12_expr 20 = .ok (.istore_n 3, 1) := by decide +kernel
theorem dX12_expr_21 : decode cX12_expr 21 = .ok (.iload_n 3, 1) := by decide +kernel
theorem dX12_expr_22 : decode cX12_expr 22 = .ok (.ifCond .eq 317, 3) := by decide +kernel
theorem dX12_expr_25 : decode cX12_expr 25 = .ok (.iload_n 2, 1) := by decide +kernel
theorem dX12_expr_26 : decode cX12_expr 26 = .ok (.ifCond .eq 146, 3) := by decide +kernel
theorem dX12_expr_29 : decode cX12_expr 29 = .ok (.aload_n 0, 1) := by decide +kernel
theorem dX12_expr_30 : decode cX12_expr 30 = .ok (.bipush 40, 2) := by decide +kernel
theorem dX12_expr_32 : decode cX12_expr 32 = .ok (.invokevirtual 343, 3) := by decide +kernel
theorem dX12_expr_35 : decode cX12_expr 35 = .ok (.ifCond .eq 35, 3) := by decide +kernel
theorem dX12_expr_38 : decode cX12_expr 38 = .ok (.iload_n 1, 1) := by decide +kernel
theorem dX12_expr_39 : decode cX12_expr 39 = .ok (.bipush 6, 2) := by decide +kernel
theorem dX12_expr_41 : decode cX12_expr 41 = .ok (.if_icmp .ne 9, 3) := by decide +kernel
theorem dX12_expr_44 : decode cX12_expr 44 = .ok (.aload_n 0, 1) := by decide +kernel
theorem dX12_expr_45 : decode cX12_expr 45 = .ok (.iconst 2, 1) := by decide +kernel
theorem dX12_expr_46 : decode cX12_expr 46 = .ok (.invokevirtual 314, 3) := by decide +kernel
theorem dX12_expr_49 : decode cX12_expr 49 = .ok (.ireturn, 1) := by decide +kernel
theorem dX12_expr_50 : decode cX12_expr 50 = .ok (.aload_n 0, 1) := by decide +kernel
theorem dX12_expr_51 : decode cX12_expr 51 = .ok (.invokevirtual 317, 3) := by decide +kernel
theorem dX12_expr_54 : decode cX12_expr 54 = .ok (.ifCond .ne 5, 3) := by decide +kernel
theorem dX12_expr_57 : decode cX12_expr 57 = .ok (.iconst 0, 1) := by decide +kernel
theorem dX12_expr_58 : decode cX12_expr 58 = .ok (.ireturn, 1) := by decide +kernel
theorem dX12_expr_59 : decode cX12_expr 59 = .ok (.iinc 1 1, 3) := by decide +kernel
theorem dX12_expr_62 : decode cX12_expr 62 = .ok (.aload_n 0, 1) := by decide +kernel
theorem dX12_expr_63 : decode cX12_expr 63 = .ok (.iconst 0, 1) := by decide +kernel
theorem dX12_expr_64 : decode cX12_expr 64 = .ok (.invokevirtual 346, 3) := by decide +kernel
theorem dX12_expr_67 : decode cX12_expr 67 = .ok (.goto (-46), 3) := by decide +kernel
theorem dX12_expr_70 : decode cX12_expr 70 = .ok (.aload_n 0, 1) := by decide +kernel
theorem dX12_expr_71 : decode cX12_expr 71 = .ok (.getfield 13, 3) := by decide +kernel
theorem dX12_expr_74 : decode cX12_expr 74 = .ok (.aload_n 0, 1) := by decide +kernel
theorem dX12_expr_75 : decode cX12_expr 75 = .ok (.getfield 305, 3) := by decide +kernel
theorem dX12_expr_78 : decode cX12_expr 78 = .ok (.iaload, 1) := by decide +kernel
theorem dX12_expr_79 : decode cX12_expr 79 = .ok (.iconst 3, 1) := by decide +kernel
theorem dX12_expr_80 : decode cX12_expr 80 = .ok (.if_icmp .ne 18, 3) := by decide +kernel
theorem dX12_expr_83 : decode cX12_expr 83 = .ok (.aload_n 0, 1) := by decide +kernel
theorem dX12_expr_84 : decode cX12_expr 84 = .ok (.getfield 19, 3) := by decide +kernel
theorem dX12_expr_87 : decode cX12_expr 87 = .ok (.aload_n 0, 1) := by decide +kernel
theorem dX12_expr_88 : decode cX12_expr 88 = .ok (.getfield 305, 3) := by decide +kernel
theorem dX12_expr_91 : decode cX12_expr 91 = .ok (.iaload, 1) := by decide +kernel
theorem dX12_expr_92 : decode cX12_expr 92 = .ok (.invokestatic 349, 3) := by decide +kernel
theorem dX12_expr_95 : decode cX12_expr 95 = .ok (.goto 4, 3) := by decide +kernel
theorem dX12_expr_98 : decode cX12_expr 98 = .ok (.iconst (-1), 1) := by decide +kernel
theorem dX12_expr_99 : decode cX12_expr 99 = .ok (.istore 4, 2) := by decide +kernel
theorem dX12_expr_101 : decode cX12_expr 101 = .ok (.aload_n 0, 1) := by decide +kernel
theorem dX12_expr_102 : decode cX12_expr 102 = .ok (.getfield 13, 3) := by decide +kernel
theorem dX12_expr_105 : decode cX12_expr 105 = .ok (.aload_n 0, 1) := by decide +kernel
theorem dX12_expr_106 : decode cX12_expr 106 = .ok (.getfield 305, 3) := by decide +kernel
theorem dX12_expr_109 : decode cX12_expr 109 = .ok (.iaload, 1) := by decide +kernel
theorem dX12_expr_110 : decode cX12_expr 110 = .ok (.iconst 1, 1) := by decide +kernel
theorem dX12_expr_111 : decode cX12_expr 111 = .ok (.if_icmp .eq 14, 3) := by decide +kernel
theorem dX12_expr_114 : decode cX12_expr 114 = .ok (.iload 4, 2) := by decide +kernel
theorem dX12_expr_116 : decode cX12_expr 116 = .ok (.ifCond .ge 9, 3) := by decide +kernel
theorem dX12_expr_119 : decode cX12_expr 119 = .ok (.aload_n 0, 1) := by decide +kernel
theorem dX12_expr_120 : decode cX12_expr 120 = .ok (.iconst 1, 1) := by decide +kernel
theorem dX12_expr_121 : decode cX12_expr 121 = .ok (.invokevirtual 314, 3) := by decide +kernel
theorem dX12_expr_124 : decode cX12_expr 124 = .ok (.ireturn, 1) := by decide +kernel
theorem dX12_expr_125 : decode cX12_expr 125 = .ok (.aload_n 0, 1) := by decide +kernel
theorem dX12_expr_126 : decode cX12_expr 126 = .ok (.iload 4, 2) := by decide +kernel
theorem dX12_expr_128 : decode cX12_expr 128 = .ok (.ifCond .ge 7, 3) := by decide +kernel
theorem dX12_expr_131 : decode cX12_expr 131 = .ok (.iconst 0, 1) := by decide +kernel
theorem dX12_expr_132 : decode cX12_expr 132 = .ok (.goto 4, 3) := by decide +kernel
theorem dX12_expr_135 : decode cX12_expr 135 = .ok (.iconst 1, 1) := by decide +kernel
theorem dX12_expr_136 : decode cX12_expr 136 = .ok (.iload 4, 2) := by decide +kernel
theorem dX12_expr_138 : decode cX12_expr 138 = .ok (.ifCond .ge 15, 3) := by decide +kernel
theorem dX12_expr_141 : decode cX12_expr 141 = .ok (.aload_n 0, 1) := by decide +kernel
theorem dX12_expr_142 : decode cX12_expr 142 = .ok (.getfield 19, 3) := by decide +kernel
theorem dX12_expr_145 : decode cX12_expr 145 = .ok (.aload_n 0, 1) := by decide +kernel
theorem dX12_expr_146 : decode cX12_expr 146 = .ok (.getfield 305, 3) := by decide +kernel
theorem dX12_expr_149 : decode cX12_expr 149 = .ok (.iaload, 1) := by decide +kernel
theorem dX12_expr_150 : decode cX12_expr 150 = .ok (.goto 5, 3) := by decide +kernel
theorem dX12_expr_153 : decode cX12_expr 153 = .ok (.iload 4, 2) := by decide +kernel
theorem dX12_expr_155 : decode cX12_expr 155 = .ok (.invokevirtual 337, 3) := by decide +kernel
theorem dX12_expr_158 : decode cX12_expr 158 = .ok (.aload_n 0, 1) := by decide +kernel
theorem dX12_expr_159 : decode cX12_expr 159 = .ok (.invokevirtual 317, 3) := by decide +kernel
theorem dX12_expr_162 : decode cX12_expr 162 = .ok (.ifCond .ne 5, 3) := by decide +kernel
theorem dX12_expr_165 : decode cX12_expr 165 = .ok (.iconst 0, 1) := by decide +kernel
theorem dX12_expr_166 : decode cX12_expr 166 = .ok (.ireturn, 1) := by decide +kernel
theorem dX12_expr_167 : decode cX12_expr 167 = .ok (.iconst 0, 1) := by decide +kernel
theorem dX12_expr_168 : decode cX12_expr 168 = .ok (.istore_n 2, 1) := by decide +kernel
theorem dX12_expr_169 : decode cX12_expr 169 = .ok (.goto (-148), 3) := by decide +kernel
theorem dX12_expr_172 : decode cX12_expr 172 = .ok (.aload_n 0, 1) := by decide +kernel
theorem dX12_expr_173 : decode cX12_expr 173 = .ok (.bipush 42, 2) := by decide +kernel
theorem dX12_expr_175 : decode cX12_expr 175 = .ok (.invokevirtual 343, 3) := by decide +kernel
theorem dX12_expr_178 : decode cX12_expr 178 = .ok (.ifCond .ne 12, 3) := by decide +kernel
theorem dX12_expr_181 : decode cX12_expr 181 = .ok (.aload_n 0, 1) := by decide +kernel
theorem dX12_expr_182 : decode cX12_expr 182 = .ok (.bipush 47, 2) := by decide +kernel
theorem dX12_expr_184 : decode cX12_expr 184 = .ok (.invokevirtual 343, 3) := by decide +kernel
theorem dX12_expr_187 : decode cX12_expr 187 = .ok (.ifCond .eq 41, 3) := by decide +kernel
theorem dX12_expr_190 : decode cX12_expr 190 = .ok (.aload_n 0, 1) := by decide +kernel
theorem dX12_expr_191 : decode cX12_expr 191 = .ok (.iconst 2, 1) := by decide +kernel
theorem dX12_expr_192 : decode cX12_expr 192 = .ok (.iconst 0, 1) := by decide +kernel
theorem dX12_expr_193 : decode cX12_expr 193 = .ok (.invokevirtual 352, 3) := by decide +kernel
theorem dX12_expr_196 : decode cX12_expr 196 = .ok (.aload_n 0, 1) := by decide +kernel
theorem dX12_expr_197 : decode cX12_expr 197 = .ok (.aload_n 0, 1) := by decide +kernel
theorem dX12_expr_198 : decode cX12_expr 198 = .ok (.bipush 42, 2) := by decide +kernel
theorem dX12_expr_200 : decode cX12_expr 200 = .ok (.invokevirtual 343, 3) := by decide +kernel
theorem dX12_expr_203 : decode cX12_expr 203 = .ok (.ifCond .eq 7, 3) := by decide +kernel
theorem dX12_expr_206 : decode cX12_expr 206 = .ok (.iconst 4, 1) := by decide +kernel
theorem dX12_expr_207 : decode cX12_expr 207 = .ok (.goto 4, 3) := by decide +kernel
theorem dX12_expr_210 : decode cX12_expr 210 = .ok (.iconst 5, 1) := by decide +kernel
theorem dX12_expr_211 : decode cX12_expr 211 = .ok (.invokevirtual 346, 3) := by decide +kernel
theorem dX12_expr_214 : decode cX12_expr 214 = .ok (.aload_n 0, 1) := by decide +kernel
theorem dX12_expr_215 : decode cX12_expr 215 = .ok (.invokevirtual 317, 3) := by decide +kernel
theorem dX12_expr_218 : decode cX12_expr 218 = .ok (.ifCond .ne 5, 3) := by decide +kernel
theorem dX12_expr_221 : decode cX12_expr 221 = .ok (.iconst 0, 1) := by decide +kernel
theorem dX12_expr_222 : decode cX12_expr 222 = .ok (.ireturn, 1) := by decide +kernel
theorem dX12_expr_223 : decode cX12_expr 223 = .ok (.iconst 1, 1) := by decide +kernel
theorem dX12_expr_224 : decode cX12_expr 224 = .ok (.istore_n 2, 1) := by decide +kernel
theorem dX12_expr_225 : decode cX12_expr 225 = .ok (.goto (-204), 3) := by decide +kernel
theorem dX12_expr_228 : decode cX12_expr 228 = .ok (.aload_n 0, 1) := by decide +kernel
theorem dX12_expr_229 : decode cX12_expr 229 = .ok (.bipush 43, 2) := by decide +kernel
theorem dX12_expr_231 : decode cX12_expr 231 = .ok (.invokevirtual 343, 3) := by decide +kernel
theorem dX12_expr_234 : decode cX12_expr 234 = .ok (.ifCond .ne 12, 3) := by decide +kernel
theorem dX12_expr_237 : decode cX12_expr 237 = .ok (.aload_n 0, 1) := by decide +kernel
theorem dX12_expr_238 : decode cX12_expr 238 = .ok (.bipush 45, 2) := by decide +kernel
theorem dX12_expr_240 : decode cX12_expr 240 = .ok (.invokevirtual 343, 3) := by decide +kernel
theorem dX12_expr_243 : decode cX12_expr 243 = .ok (.ifCond .eq 41, 3) := by decide +kernel
theorem dX12_expr_246 : decode cX12_expr 246 = .ok (.aload_n 0, 1) := by decide +kernel
theorem dX12_expr_247 : decode cX12_expr 247 = .ok (.iconst 1, 1) := by decide +kernel
theorem dX12_expr_248 : decode cX12_expr 248 = .ok (.iconst 0, 1) := by decide +kernel
theorem dX12_expr_249 : decode cX12_expr 249 = .ok (.invokevirtual 352, 3) := by decide +kernel
theorem dX12_expr_252 : decode cX12_expr 252 = .ok (.aload_n 0, 1) := by decide +kernel
theorem dX12_expr_253 : decode cX12_expr 253 = .ok (.aload_n 0, 1) := by decide +kernel
theorem dX12_expr_254 : decode cX12_expr 254 = .ok (.bipush 43, 2) := by decide +kernel
theorem dX12_expr_256 : decode cX12_expr 256 = .ok (.invokevirtual 343, 3) := by decide +kernel
theorem dX12_expr_259 : decode cX12_expr 259 = .ok (.ifCond .eq 7, 3) := by decide +kernel
theorem dX12_expr_262 : decode cX12_expr 262 = .ok (.iconst 2, 1) := by decide +kernel
theorem dX12_expr_263 : decode cX12_expr 263 = .ok (.goto 4, 3) := by decide +kernel
theorem dX12_expr_266 : decode cX12_expr 266 = .ok (.iconst 3, 1) := by decide +kernel
theorem dX12_expr_267 : decode cX12_expr 267 = .ok (.invokevirtual 346, 3) := by decide +kernel
theorem dX12_expr_270 : decode cX12_expr 270 = .ok (.aload_n 0, 1) := by decide +kernel
theorem dX12_expr_271 : decode cX12_expr 271 = .ok (.invokevirtual 317, 3) := by decide +kernel
theorem dX12_expr_274 : decode cX12_expr 274 = .ok (.ifCond .ne 5, 3) := by decide +kernel
theorem dX12_expr_277 : decode cX12_expr 277 = .ok (.iconst 0, 1) := by decide +kernel
theorem dX12_expr_278 : decode cX12_expr 278 = .ok (.ireturn, 1) := by decide +kernel
theorem dX12_expr_279 : decode cX12_expr 279 = .ok (.iconst 1, 1) := by decide +kernel
theorem dX12_expr_280 : decode cX12_expr 280 = .ok (.istore_n 2, 1) := by decide +kernel
theorem dX12_expr_281 : decode cX12_expr 281 = .ok (.goto (-260), 3) := by decide +kernel
theorem dX12_expr_284 : decode cX12_expr 284 = .ok (.iload_n 1, 1) := by decide +kernel
theorem dX12_expr_285 : decode cX12_expr 285 = .ok (.ifCond .le 49, 3) := by decide +kernel
theorem dX12_expr_288 : decode cX12_expr 288 = .ok (.aload_n 0, 1) := by decide +kernel
theorem dX12_expr_289 : decode cX12_expr 289 = .ok (.bipush 41, 2) := by decide +kernel
theorem dX12_expr_291 : decode cX12_expr 291 = .ok (.invokevirtual 343, 3) := by decide +kernel
theorem dX12_expr_294 : decode cX12_expr 294 = .ok (.ifCond .ne 9, 3) := by decide +kernel
theorem dX12_expr_297 : decode cX12_expr 297 = .ok (.aload_n 0, 1) := by decide +kernel
theorem dX12_expr_298 : decode cX12_expr 298 = .ok (.iconst 1, 1) := by decide +kernel
theorem dX12_expr_299 : decode cX12_expr 299 = .ok (.invokevirtual 314, 3) := by decide +kernel
theorem dX12_expr_302 : decode cX12_expr 302 = .ok (.ireturn, 1) := by decide +kernel
theorem dX12_expr_303 : decode cX12_expr 303 = .ok (.aload_n 0, 1) := by decide +kernel
theorem dX12_expr_304 : decode cX12_expr 304 = .ok (.invokevirtual 317, 3) := by decide +kernel
theorem dX12_expr_307 : decode cX12_expr 307 = .ok (.ifCond .ne 5, 3) := by decide +kernel
theorem dX12_expr_310 : decode cX12_expr 310 = .ok (.iconst 0, 1) := by decide +kernel
theorem dX12_expr_311 : decode cX12_expr 311 = .ok (.ireturn, 1) := by decide +kernel
theorem dX12_expr_312 : decode cX12_expr 312 = .ok (.aload_n 0, 1) := by decide +kernel
theorem dX12_expr_313 : decode cX12_expr 313 = .ok (.iconst 1, 1) := by decide +kernel
theorem dX12_expr_314 : decode cX12_expr 314 = .ok (.iconst 0, 1) := by decide +kernel
theorem dX12_expr_315 : decode cX12_expr 315 = .ok (.invokevirtual 352, 3) := by decide +kernel
theorem dX12_expr_318 : decode cX12_expr 318 = .ok (.aload_n 0, 1) := by decide +kernel
theorem dX12_expr_319 : decode cX12_expr 319 = .ok (.dup, 1) := by decide +kernel
theorem dX12_expr_320 : decode cX12_expr 320 = .ok (.getfield 331, 3) := by decide +kernel
theorem dX12_expr_323 : decode cX12_expr 323 = .ok (.iconst 1, 1) := by decide +kernel
theorem dX12_expr_324 : decode cX12_expr 324 = .ok (.isub, 1) := by decide +kernel
theorem dX12_expr_325 : decode cX12_expr 325 = .ok (.putfield 331, 3) := by decide +kernel
theorem dX12_expr_328 : decode cX12_expr 328 = .ok (.iinc 1 (-1), 3) := by decide +kernel
theorem dX12_expr_331 : decode cX12_expr 331 = .ok (.goto (-310), 3) := by decide +kernel
theorem dX12_expr_334 : decode cX12_expr 334 = .ok (.iconst 0, 1) := by decide +kernel
theorem dX12_expr_335 : decode cX12_expr 335 = .ok (.istore_n 3, 1) := by decide +kernel
theorem dX12_expr_336 : decode cX12_expr 336 = .ok (.goto (-315), 3) := by decide +kernel
theorem dX12_expr_339 : decode cX12_expr 339 = .ok (.aload_n 0, 1) := by decide +kernel
theorem dX12_expr_340 : decode cX12_expr 340 = .ok (.iconst 1, 1) := by decide +kernel
theorem dX12_expr_341 : decode cX12_expr 341 = .ok (.iconst 0, 1) := by decide +kernel
theorem dX12_expr_342 : decode cX12_expr 342 = .ok (.invokevirtual 352, 3) := by decide +kernel
theorem dX12_expr_345 : decode cX12_expr 345 = .ok (.iconst 1, 1) := by decide +kernel
theorem dX12_expr_346 : decode cX12_expr 346 = .ok (.ireturn, 1) := by decide +kernel
theorem dX12_cond_0 : decode cX12_cond 0 = .ok (.aload_n 0, 1) := by decide +kernel
theorem dX12_cond_1 : decode cX12_cond 1 = .ok (.aload_n 0, 1) := by decide +kernel
theorem dX12_cond_2 : decode cX12_cond 2 = .ok (.getfield 106, 3) := by decide +kernel
theorem dX12_cond_5 : decode cX12_cond 5 = .ok (.iconst 1, 1) := by decide +kernel
theorem dX12_cond_6 : decode cX12_cond 6 = .ok (.iaload, 1) := by decide +kernel
theorem dX12_cond_7 : decode cX12_cond 7 = .ok (.putfield 355, 3) := by decide +kernel
theorem dX12_cond_10 : decode cX12_cond 10 = .ok (.iconst 0, 1) := by decide +kernel
theorem dX12_cond_11 : decode cX12_cond 11 = .ok (.istore_n 1, 1) := by decide +kernel
theorem dX12_cond_12 : decode cX12_cond 12 = .ok (.iconst 1, 1) := by decide +kernel
theorem dX12_cond_13 : decode cX12_cond 13 = .ok (.istore_n 2, 1) := by decide +kernel
theorem dX12_cond_14 : decode cX12_cond 14 = .ok (.iload_n 2, 1) := by decide +kernel
theorem dX12_cond_15 : decode cX12_cond 15 = .ok (.ifCond .eq 258, 3) := by decide +kernel
theorem dX12_cond_18 : decode cX12_cond 18 = .ok (.sipush 200, 3) := by decide +kernel
theorem dX12_cond_21 : decode cX12_cond 21 = .ok (.aload_n 0, 1) := by decide +kernel
theorem dX12_cond_22 : decode cX12_cond 22 = .ok (.getfield 106, 3) := by decide +kernel
theorem dX12_cond_25 : decode cX12_cond 25 = .ok (.iconst 1, 1) := by decide +kernel
theorem dX12_cond_26 : decode cX12_cond 26 = .ok (.iaload, 1) := by decide +kernel
theorem dX12_cond_27 : decode cX12_cond 27 = .ok (.iadd, 1) := by decide +kernel
theorem dX12_cond_28 : decode cX12_cond 28 = .ok (.istore_n 3, 1) := by decide +kernel
theorem dX12_cond_29 : decode cX12_cond 29 = .ok (.iconst 0, 1) := by decide +kernel
theorem dX12_cond_30 : decode cX12_cond 30 = .ok (.istore 4, 2) := by decide +kernel
theorem dX12_cond_32 : decode cX12_cond 32 = .ok (.aload_n 0, 1) := by decide +kernel
theorem dX12_cond_33 : decode cX12_cond 33 = .ok (.bipush 10, 2) := by decide +kernel
theorem dX12_cond_35 : decode cX12_cond 35 = .ok (.invokevirtual 358, 3) := by decide +kernel
theorem dX12_cond_38 : decode cX12_cond 38 = .ok (.ifCond .eq 27, 3) := by decide +kernel
theorem dX12_cond_41 : decode cX12_cond 41 = .ok (.aload_n 0, 1) := by decide +kernel
theorem dX12_cond_42 : decode cX12_cond 42 = .ok (.invokevirtual 317, 3) := by decide +kernel
theorem dX12_cond_45 : decode cX12_cond 45 = .ok (.ifCond .ne 5, 3) := by decide +kernel
theorem dX12_cond_48 : decode cX12_cond 48 = .ok (.iconst 0, 1) := by decide +kernel
theorem dX12_cond_49 : decode cX12_cond 49 = .ok (.ireturn, 1) := by decide +kernel
theorem dX12_cond_50 : decode cX12_cond 50 = .ok (.iload 4, 2) := by decide +kernel
theorem dX12_cond_52 : decode cX12_cond 52 = .ok (.ifCond .ne 7, 3) := by decide +kernel
theorem dX12_cond_55 : decode cX12_cond 55 = .ok (.iconst 1, 1) := by decide +kernel
theorem dX12_cond_56 : decode cX12_cond 56 = .ok (.goto 4, 3) := by decide +kernel
theorem dX12_cond_59 : decode cX12_cond 59 = .ok (.iconst 0, 1) := by decide +kernel
theorem dX12_cond_60 : decode cX12_cond 60 = .ok (.istore 4, 2) := by decide +kernel
theorem dX12_cond_62 : decode cX12_cond 62 = .ok (.goto (-30), 3) := by decide +kernel
theorem dX12_cond_65 : decode cX12_cond 65 = .ok (.aload_n 0, 1) := by decide +kernel
theorem dX12_cond_66 : decode cX12_cond 66 = .ok (.invokevirtual 361, 3) := by decide +kernel
theorem dX12_cond_69 : decode cX12_cond 69 = .ok (.ifCond .ne 5, 3) := by decide +kernel
theorem dX12_cond_72 : decode cX12_cond 72 = .ok (.iconst 0, 1) := by decide +kernel
theorem dX12_cond_73 : decode cX12_cond 73 = .ok (.ireturn, 1) := by decide +kernel
theorem dX12_cond_74 : decode cX12_cond 74 = .ok (.aload_n 0, 1) := by decide +kernel
theorem dX12_cond_75 : decode cX12_cond 75 = .ok (.getfield 115, 3) := by decide +kernel
theorem dX12_cond_78 : decode cX12_cond 78 = .ok (.iload_n 3, 1) := by decide +kernel
theorem dX12_cond_79 : decode cX12_cond 79 = .ok (.aload_n 0, 1) := by decide +kernel
theorem dX12_cond_80 : decode cX12_cond 80 = .ok (.getfield 340, 3) := by decide +kernel
theorem dX12_cond_83 : decode cX12_cond 83 = .ok (.iastore, 1) := by decide +kernel
theorem dX12_cond_84 : decode cX12_cond 84 = .ok (.aload_n 0, 1) := by decide +kernel
theorem dX12_cond_85 : decode cX12_cond 85 = .ok (.getfield 118, 3) := by decide +kernel
theorem dX12_cond_88 : decode cX12_cond 88 = .ok (.iload_n 3, 1) := by decide +kernel
theorem dX12_cond_89 : decode cX12_cond 89 = .ok (.aload_n 0, 1) := by decide +kernel
theorem dX12_cond_90 : decode cX12_cond 90 = .ok (.getfield 97, 3) := by decide +kernel
theorem dX12_cond_93 : decode cX12_cond 93 = .ok (.iconst 1, 1) := by decide +kernel
theorem dX12_cond_94 : decode cX12_cond 94 = .ok (.iaload, 1) := by decide +kernel
theorem dX12_cond_95 : decode cX12_cond 95 = .ok (.iastore, 1) := by decide +kernel
theorem dX12_cond_96 : decode cX12_cond 96 = .ok (.aload_n 0, 1) := by decide +kernel
theorem dX12_cond_97 : decode cX12_cond 97 = .ok (.sipush 300, 3) := by decide +kernel
theorem dX12_cond_100 : decode cX12_cond 100 = .ok (.invokevirtual 343, 3) := by decide +kernel
theorem dX12_cond_103 : decode cX12_cond 103 = .ok (.ifCond .ne 32, 3) := by decide +kernel
theorem dX12_cond_106 : decode cX12_cond 106 = .ok (.aload_n 0, 1) := by decide +kernel
theorem dX12_cond_107 : decode cX12_cond 107 = .ok (.sipush 301, 3) := by decide +kernel
theorem dX12_cond_110 : decode cX12_cond 110 = .ok (.invokevirtual 343, 3) := by decide +kernel
theorem dX12_cond_113 : decode cX12_cond 113 = .ok (.ifCond .ne 22, 3) := by decide +kernel
theorem dX12_cond_116 : decode cX12_cond 116 = .ok (.aload_n 0, 1) := by decide +kernel
theorem dX12_cond_117 : decode cX12_cond 117 = .ok (.sipush 302, 3) := by decide +kernel
theorem dX12_cond_120 : decode cX12_cond 120 = .ok (.invokevirtual 343, 3) := by decide +kernel
theorem dX12_cond_123 : decode cX12_cond 123 = .ok (.ifCond .ne 12, 3) := by decide +kernel
theorem dX12_cond_126 : decode cX12_cond 126 = .ok (.aload_n 0, 1) := by decide +kernel
theorem dX12_cond_127 : decode cX12_cond 127 = .ok (.bipush 60, 2) := by decide +kernel
theorem dX12_cond_129 : decode cX12_cond 129 = .ok (.invokevirtual 343, 3) := by decide +kernel
theorem dX12_cond_132 : decode cX12_cond 132 = .ok (.ifCond .eq 7, 3) := by decide +kernel
theorem dX12_cond_135 : decode cX12_cond 135 = .ok (.iconst 1, 1) := by decide +kernel
theorem dX12_cond_136 : decode cX12_cond 136 = .ok (.goto 4, 3) := by decide +kernel
theorem dX12_cond_139 : decode cX12_cond 139 = .ok (.iconst 0, 1) := by decide +kernel
theorem dX12_cond_140 : decode cX12_cond 140 = .ok (.istore 5, 2) := by decide +kernel
theorem dX12_cond_142 : decode cX12_cond 142 = .ok (.iload 5, 2) := by decide +kernel
theorem dX12_cond_144 : decode cX12_cond 144 = .ok (.ifCond .ne 9, 3) := by decide +kernel
theorem dX12_cond_147 : decode cX12_cond 147 = .ok (.aload_n 0, 1) := by decide +kernel
theorem dX12_cond_148 : decode cX12_cond 148 = .ok (.iconst 1, 1) := by decide +kernel
theorem dX12_cond_149 : decode cX12_cond 149 = .ok (.invokevirtual 314, 3) := by decide +kernel
theorem dX12_cond_152 : decode cX12_cond 152 = .ok (.ireturn, 1) := by decide +kernel
theorem dX12_cond_153 : decode cX12_cond 153 = .ok (.aload_n 0, 1) := by decide +kernel
theorem dX12_cond_154 : decode cX12_cond 154 = .ok (.getfield 112, 3) := by decide +kernel
theorem dX12_cond_157 : decode cX12_cond 157 = .ok (.iload_n 3, 1) := by decide +kernel
theorem dX12_cond_158 : decode cX12_cond 158 = .ok (.aload_n 0, 1) := by decide +kernel
theorem dX12_cond_159 : decode cX12_cond 159 = .ok (.getfield 19, 3) := by decide +kernel
theorem dX12_cond_162 : decode cX12_cond 162 = .ok (.aload_n 0, 1) := by decide +kernel
theorem dX12_cond_163 : decode cX12_cond 163 = .ok (.getfield 305, 3) := by decide +kernel
theorem dX12_cond_166 : decode cX12_cond 166 = .ok (.iaload, 1) := by decide +kernel
theorem dX12_cond_167 : decode cX12_cond 167 = .ok (.iastore, 1) := by decide +kernel
theorem dX12_cond_168 : decode cX12_cond 168 = .ok (.aload_n 0, 1) := by decide +kernel
theorem dX12_cond_169 : decode cX12_cond 169 = .ok (.invokevirtual 317, 3) := by decide +kernel
theorem dX12_cond_172 : decode cX12_cond 172 = .ok (.ifCond .eq 10, 3) := by decide +kernel
theorem dX12_cond_175 : decode cX12_cond 175 = .ok (.aload_n 0, 1) := by decide +kernel
theorem dX12_cond_176 : decode cX12_cond 176 = .ok (.invokevirtual 361, 3) := by decide +kernel
theorem dX12_cond_179 : decode cX12_cond 179 = .ok (.ifCond .ne 5, 3) := by decide +kernel
theorem dX12_cond_182 : decode cX12_cond 182 = .ok (.iconst 0, 1) := by decide +kernel
theorem dX12_cond_183 : decode cX12_cond 183 = .ok (.ireturn, 1) := by decide +kernel
theorem dX12_cond_184 : decode cX12_cond 184 = .ok (.aload_n 0, 1) := by decide +kernel
theorem dX12_cond_185 : decode cX12_cond 185 = .ok (.getfield 121, 3) := by decide +kernel
theorem dX12_cond_188 : decode cX12_cond 188 = .ok (.iload_n 3, 1) := by decide +kernel
theorem dX12_cond_189 : decode cX12_cond 189 = .ok (.aload_n 0, 1) := by decide +kernel
theorem dX12_cond_190 : decode cX12_cond 190 = .ok (.getfield 97, 3) := by decide +kernel
theorem dX12_cond_193 : decode cX12_cond 193 = .ok (.iconst 1, 1) := by decide +kernel
theorem dX12_cond_194 : decode cX12_cond 194 = .ok (.iaload, 1) := by decide +kernel
theorem dX12_cond_195 : decode cX12_cond 195 = .ok (.iastore, 1) := by decide +kernel
theorem dX12_cond_196 : decode cX12_cond 196 = .ok (.aload_n 0, 1) := by decide +kernel
theorem dX12_cond_197 : decode cX12_cond 197 = .ok (.getfield 109, 3) := by decide +kernel
theorem dX12_cond_200 : decode cX12_cond 200 = .ok (.iload_n 3, 1) := by decide +kernel
theorem dX12_cond_201 : decode cX12_cond 201 = .ok (.iload 4, 2) := by decide +kernel
theorem dX12_cond_203 : decode cX12_cond 203 = .ok (.bastore, 1) := by decide +kernel
theorem dX12_cond_204 : decode cX12_cond 204 = .ok (.aload_n 0, 1) := by decide +kernel
theorem dX12_cond_205 : decode cX12_cond 205 = .ok (.getfield 124, 3) := by decide +kernel
theorem dX12_cond_208 : decode cX12_cond 208 = .ok (.iload_n 3, 1) := by decide +kernel
theorem dX12_cond_209 : decode cX12_cond 209 = .ok (.iload_n 1, 1) := by decide +kernel
theorem dX12_cond_210 : decode cX12_cond 210 = .ok (.iastore, 1) := by decide +kernel
theorem dX12_cond_211 : decode cX12_cond 211 = .ok (.aload_n 0, 1) := by decide +kernel
theorem dX12_cond_212 : decode cX12_cond 212 = .ok (.getfield 106, 3) := by decide +kernel
theorem dX12_cond_215 : decode cX12_cond 215 = .ok (.iconst 1, 1) := by decide +kernel
theorem dX12_cond_216 : decode cX12_cond 216 = .ok (.dup2, 1) := by decide +kernel
theorem dX12_cond_217 : decode cX12_cond 217 = .ok (.iaload, 1) := by decide +kernel
theorem dX12_cond_218 : decode cX12_cond 218 = .ok (.iconst 1, 1) := by decide +kernel
theorem dX12_cond_219 : decode cX12_cond 219 = .ok (.iadd, 1) := by decide +kernel
theorem dX12_cond_220 : decode cX12_cond 220 = .ok (.iastore, 1) := by decide +kernel
theorem dX12_cond_221 : decode cX12_cond 221 = .ok (.aload_n 0, 1) := by decide +kernel
theorem dX12_cond_222 : decode cX12_cond 222 = .ok (.bipush 11, 2) := by decide +kernel
theorem dX12_cond_224 : decode cX12_cond 224 = .ok (.invokevirtual 358, 3) := by decide +kernel
theorem dX12_cond_227 : decode cX12_cond 227 = .ok (.ifCond .ne 12, 3) := by decide +kernel
theorem dX12_cond_230 : decode cX12_cond 230 = .ok (.aload_n 0, 1) := by decide +kernel
theorem dX12_cond_231 : decode cX12_cond 231 = .ok (.bipush 12, 2) := by decide +kernel
theorem dX12_cond_233 : decode cX12_cond 233 = .ok (.invokevirtual 358, 3) := by decide +kernel
theorem dX12_cond_236 : decode cX12_cond 236 = .ok (.ifCond .eq 7, 3) := by decide +kernel
theorem dX12_cond_239 : decode cX12_cond 239 = .ok (.iconst 1, 1) := by decide +kernel
theorem dX12_cond_240 : decode cX12_cond 240 = .ok (.goto 4, 3) := by decide +kernel
theorem dX12_cond_243 : decode cX12_cond 243 = .ok (.iconst 0, 1) := by decide +kernel
theorem dX12_cond_244 : decode cX12_cond 244 = .ok (.istore_n 2, 1) := by decide +kernel
theorem dX12_cond_245 : decode cX12_cond 245 = .ok (.aload_n 0, 1) := by decide +kernel
theorem dX12_cond_246 : decode cX12_cond 246 = .ok (.bipush 12, 2) := by decide +kernel
theorem dX12_cond_248 : decode cX12_cond 248 = .ok (.invokevirtual 358, 3) := by decide +kernel
theorem dX12_cond_251 : decode cX12_cond 251 = .ok (.ifCond .eq 6, 3) := by decide +kernel
theorem dX12_cond_254 : decode cX12_cond 254 = .ok (.iinc 1 1, 3) := by decide +kernel
theorem dX12_cond_257 : decode cX12_cond 257 = .ok (.iload_n 2, 1) := by decide +kernel
theorem dX12_cond_258 : decode cX12_cond 258 = .ok (.ifCond .eq 12, 3) := by decide +kernel
theorem dX12_cond_261 : decode cX12_cond 261 = .ok (.aload_n 0, 1) := by decide +kernel
theorem dX12_cond_262 : decode cX12_cond 262 = .ok (.invokevirtual 317, 3) := by decide +kernel
theorem dX12_cond_265 : decode cX12_cond 265 = .ok (.ifCond .ne 5, 3) := by decide +kernel
theorem dX12_cond_268 : decode cX12_cond 268 = .ok (.iconst 0, 1) := by decide +kernel
theorem dX12_cond_269 : decode cX12_cond 269 = .ok (.ireturn, 1) := by decide +kernel
theorem dX12_cond_270 : decode cX12_cond 270 = .ok (.goto (-256), 3) := by decide +kernel
theorem dX12_cond_273 : decode cX12_cond 273 = .ok (.iconst 1, 1) := by decide +kernel
theorem dX12_cond_274 : decode cX12_cond 274 = .ok (.ireturn, 1) := by decide +kernel
theorem dX12_begin_0 : decode cX12_begin 0 = .ok (.aload_n 0, 1) := by decide +kernel
theorem dX12_begin_1 : decode cX12_begin 1 = .ok (.getfield 34, 3) := by decide +kernel
theorem dX12_begin_4 : decode cX12_begin 4 = .ok (.iload_n 1, 1) := by decide +kernel
theorem dX12_begin_5 : decode cX12_begin 5 = .ok (.iconst 2, 1) := by decide +kernel
theorem dX12_begin_6 : decode cX12_begin 6 = .ok (.iastore, 1) := by decide +kernel
theorem dX12_begin_7 : decode cX12_begin 7 = .ok (.aload_n 0, 1) := by decide +kernel
theorem dX12_begin_8 : decode cX12_begin 8 = .ok (.getfield 37, 3) := by decide +kernel
theorem dX12_begin_11 : decode cX12_begin 11 = .ok (.iload_n 1, 1) := by decide +kernel
theorem dX12_begin_12 : decode cX12_begin 12 = .ok (.iconst 0, 1) := by decide +kernel
theorem dX12_begin_13 : decode cX12_begin 13 = .ok (.iastore, 1) := by decide +kernel
theorem dX12_begin_14 : decode cX12_begin 14 = .ok (.aload_n 0, 1) := by decide +kernel
theorem dX12_begin_15 : decode cX12_begin 15 = .ok (.getfield 55, 3) := by decide +kernel
theorem dX12_begin_18 : decode cX12_begin 18 = .ok (.iload_n 1, 1) := by decide +kernel
theorem dX12_begin_19 : decode cX12_begin 19 = .ok (.iconst 0, 1) := by decide +kernel
theorem dX12_begin_20 : decode cX12_begin 20 = .ok (.iastore, 1) := by decide +kernel
theorem dX12_begin_21 : decode cX12_begin 21 = .ok (.aload_n 0, 1) := by decide +kernel
theorem dX12_begin_22 : decode cX12_begin 22 = .ok (.getfield 64, 3) := by decide +kernel
theorem dX12_begin_25 : decode cX12_begin 25 = .ok (.iload_n 1, 1) := by decide +kernel
theorem dX12_begin_26 : decode cX12_begin 26 = .ok (.iconst 0, 1) := by decide +kernel
theorem dX12_begin_27 : decode cX12_begin 27 = .ok (.iastore, 1) := by decide +kernel
theorem dX12_begin_28 : decode cX12_begin 28 = .ok (.aload_n 0, 1) := by decide +kernel
theorem dX12_begin_29 : decode cX12_begin 29 = .ok (.getfield 76, 3) := by decide +kernel
theorem dX12_begin_32 : decode cX12_begin 32 = .ok (.iload_n 1, 1) := by decide +kernel
theorem dX12_begin_33 : decode cX12_begin 33 = .ok (.iconst 0, 1) := by decide +kernel
theorem dX12_begin_34 : decode cX12_begin 34 = .ok (.iastore, 1) := by decide +kernel
theorem dX12_begin_35 : decode cX12_begin 35 = .ok (.aload_n 0, 1) := by decide +kernel
theorem dX12_begin_36 : decode cX12_begin 36 = .ok (.getfield 88, 3) := by decide +kernel
theorem dX12_begin_39 : decode cX12_begin 39 = .ok (.iload_n 1, 1) := by decide +kernel
theorem dX12_begin_40 : decode cX12_begin 40 = .ok (.iconst 0, 1) := by decide +kernel
theorem dX12_begin_41 : decode cX12_begin 41 = .ok (.iastore, 1) := by decide +kernel
theorem dX12_begin_42 : decode cX12_begin 42 = .ok (.aload_n 0, 1) := by decide +kernel
theorem dX12_begin_43 : decode cX12_begin 43 = .ok (.getfield 97, 3) := by decide +kernel
theorem dX12_begin_46 : decode cX12_begin 46 = .ok (.iload_n 1, 1) := by decide +kernel
theorem dX12_begin_47 : decode cX12_begin 47 = .ok (.iconst 0, 1) := by decide +kernel
theorem dX12_begin_48 : decode cX12_begin 48 = .ok (.iastore, 1) := by decide +kernel
theorem dX12_begin_49 : decode cX12_begin 49 = .ok (.aload_n 0, 1) := by decide +kernel
theorem dX12_begin_50 : decode cX12_begin 50 = .ok (.getfield 106, 3) := by decide +kernel
theorem dX12_begin_53 : decode cX12_begin 53 = .ok (.iload_n 1, 1) := by decide +kernel
theorem dX12_begin_54 : decode cX12_begin 54 = .ok (.iconst 0, 1) := by decide +kernel
theorem dX12_begin_55 : decode cX12_begin 55 = .ok (.iastore, 1) := by decide +kernel
theorem dX12_begin_56 : decode cX12_begin 56 = .ok (.aload_n 0, 1) := by decide +kernel
theorem dX12_begin_57 : decode cX12_begin 57 = .ok (.getfield 127, 3) := by decide +kernel
theorem dX12_begin_60 : decode cX12_begin 60 = .ok (.iload_n 1, 1) := by decide +kernel
theorem dX12_begin_61 : decode cX12_begin 61 = .ok (.iconst 0, 1) := by decide +kernel
theorem dX12_begin_62 : decode cX12_begin 62 = .ok (.iastore, 1) := by decide +kernel
theorem dX12_begin_63 : decode cX12_begin 63 = .ok (.aload_n 0, 1) := by decide +kernel
theorem dX12_begin_64 : decode cX12_begin 64 = .ok (.iconst 0, 1) := by decide +kernel
theorem dX12_begin_65 : decode cX12_begin 65 = .ok (.putfield 364, 3) := by decide +kernel
theorem dX12_begin_68 : decode cX12_begin 68 = .ok (.return_, 1) := by decide +kernel
theorem dX12_copy_0 : decode cX12_copy 0 = .ok (.aload_n 0, 1) := by decide +kernel
theorem dX12_copy_1 : decode cX12_copy 1 = .ok (.getfield 34, 3) := by decide +kernel
theorem dX12_copy_4 : decode cX12_copy 4 = .ok (.iload_n 2, 1) := by decide +kernel
theorem dX12_copy_5 : decode cX12_copy 5 = .ok (.aload_n 0, 1) := by decide +kernel
theorem dX12_copy_6 : decode cX12_copy 6 = .ok (.getfield 34, 3) := by decide +kernel
theorem dX12_copy_9 : decode cX12_copy 9 = .ok (.iload_n 1, 1) := by decide +kernel
theorem dX12_copy_10 : decode cX12_copy 10 = .ok (.iaload, 1) := by decide +kernel
theorem dX12_copy_11 : decode cX12_copy 11 = .ok (.iastore, 1) := by decide +kernel
theorem dX12_copy_12 : decode cX12_copy 12 = .ok (.aload_n 0, 1) := by decide +kernel
theorem dX12_copy_13 : decode cX12_copy 13 = .ok (.getfield 37, 3) := by decide +kernel
theorem dX12_copy_16 : decode cX12_copy 16 = .ok (.iload_n 2, 1) := by decide +kernel
theorem dX12_copy_17 : decode cX12_copy 17 = .ok (.aload_n 0, 1) := by decide +kernel
theorem dX12_copy_18 : decode cX12_copy 18 = .ok (.getfield 37, 3) := by decide +kernel
theorem dX12_copy_21 : decode cX12_copy 21 = .ok (.iload_n 1, 1) := by decide +kernel
theorem dX12_copy_22 : decode cX12_copy 22 = .ok (.iaload, 1) := by decide +kernel
theorem dX12_copy_23 : decode cX12_copy 23 = .ok (.iastore, 1) := by decide +kernel
theorem dX12_copy_24 : decode cX12_copy 24 = .ok (.aload_n 0, 1) := by decide +kernel
theorem dX12_copy_25 : decode cX12_copy 25 = .ok (.getfield 55, 3) := by decide +kernel
theorem dX12_copy_28 : decode cX12_copy 28 = .ok (.iload_n 2, 1) := by decide +kernel
theorem dX12_copy_29 : decode cX12_copy 29 = .ok (.aload_n 0, 1) := by decide +kernel
theorem dX12_copy_30 : decode cX12_copy 30 = .ok (.getfield 55, 3) := by decide +kernel
theorem dX12_copy_33 : decode cX12_copy 33 = .ok (.iload_n 1, 1) := by decide +kernel
theorem dX12_copy_34 : decode cX12_copy 34 = .ok (.iaload, 1) := by decide +kernel
theorem dX12_copy_35 : decode cX12_copy 35 = .ok (.iastore, 1) := by decide +kernel
theorem dX12_copy_36 : decode cX12_copy 36 = .ok (.aload_n 0, 1) := by decide +kernel
theorem dX12_copy_37 : decode cX12_copy 37 = .ok (.getfield 64, 3) := by decide +kernel
theorem dX12_copy_40 : decode cX12_copy 40 = .ok (.iload_n 2, 1) := by decide +kernel
theorem dX12_copy_41 : decode cX12_copy 41 = .ok (.aload_n 0, 1) := by decide +kernel
theorem dX12_copy_42 : decode cX12_copy 42 = .ok (.getfield 64, 3) := by decide +kernel
theorem dX12_copy_45 : decode cX12_copy 45 = .ok (.iload_n 1, 1) := by decide +kernel
theorem dX12_copy_46 : decode cX12_copy 46 = .ok (.iaload, 1) := by decide +kernel
theorem dX12_copy_47 : decode cX12_copy 47 = .ok (.iastore, 1) := by decide +kernel
theorem dX12_copy_48 : decode cX12_copy 48 = .ok (.aload_n 0, 1) := by decide +kernel
theorem dX12_copy_49 : decode cX12_copy 49 = .ok (.getfield 76, 3) := by decide +kernel
theorem dX12_copy_52 : decode cX12_copy 52 = .ok (.iload_n 2, 1) := by decide +kernel
theorem dX12_copy_53 : decode cX12_copy 53 = .ok (.aload_n 0, 1) := by decide +kernel
theorem dX12_copy_54 : decode cX12_copy 54 = .ok (.getfield 76, 3) := by decide +kernel
theorem dX12_copy_57 : decode cX12_copy 57 = .ok (.iload_n 1, 1) := by decide +kernel
theorem dX12_copy_58 : decode cX12_copy 58 = .ok (.iaload, 1) := by decide +kernel
theorem dX12_copy_59 : decode cX12_copy 59 = .ok (.iastore, 1) := by decide +kernel
theorem dX12_copy_60 : decode cX12_copy 60 = .ok (.aload_n 0, 1) := by decide +kernel
theorem dX12_copy_61 : decode cX12_copy 61 = .ok (.getfield 88, 3) := by decide +kernel
theorem dX12_copy_64 : decode cX12_copy 64 = .ok (.iload_n 2, 1) := by decide +kernel
theorem dX12_copy_65 : decode cX12_copy 65 = .ok (.aload_n 0, 1) := by decide +kernel
theorem dX12_copy_66 : decode cX12_copy 66 = .ok (.getfield 88, 3) := by decide +kernel
theorem dX12_copy_69 : decode cX12_copy 69 = .ok (.iload_n 1, 1) := by decide +kernel
theorem dX12_copy_70 : decode cX12_copy 70 = .ok (.iaload, 1) := by decide +kernel
theorem dX12_copy_71 : decode cX12_copy 71 = .ok (.iastore, 1) := by decide +kernel
theorem dX12_copy_72 : decode cX12_copy 72 = .ok (.aload_n 0, 1) := by decide +kernel
theorem dX12_copy_73 : decode cX12_copy 73 = .ok (.getfield 97, 3) := by decide +kernel
theorem dX12_copy_76 : decode cX12_copy 76 = .ok (.iload_n 2, 1) := by decide +kernel
theorem dX12_copy_77 : decode cX12_copy 77 = .ok (.aload_n 0, 1) := by decide +kernel
theorem dX12_copy_78 : decode cX12_copy 78 = .ok (.getfield 97, 3) := by decide +kernel
theorem dX12_copy_81 : decode cX12_copy 81 = .ok (.iload_n 1, 1) := by decide +kernel
theorem dX12_copy_82 : decode cX12_copy 82 = .ok (.iaload, 1) := by decide +kernel
theorem dX12_copy_83 : decode cX12_copy 83 = .ok (.iastore, 1) := by decide +kernel
theorem dX12_copy_84 : decode cX12_copy 84 = .ok (.aload_n 0, 1) := by decide +kernel
theorem dX12_copy_85 : decode cX12_copy 85 = .ok (.getfield 106, 3) := by decide +kernel
theorem dX12_copy_88 : decode cX12_copy 88 = .ok (.iload_n 2, 1) := by decide +kernel
theorem dX12_copy_89 : decode cX12_copy 89 = .ok (.aload_n 0, 1) := by decide +kernel
theorem dX12_copy_90 : decode cX12_copy 90 = .ok (.getfield 106, 3) := by decide +kernel
theorem dX12_copy_93 : decode cX12_copy 93 = .ok (.iload_n 1, 1) := by decide +kernel
theorem dX12_copy_94 : decode cX12_copy 94 = .ok (.iaload, 1) := by decide +kernel
theorem dX12_copy_95 : decode cX12_copy 95 = .ok (.iastore, 1) := by decide +kernel
theorem dX12_copy_96 : decode cX12_copy 96 = .ok (.aload_n 0, 1) := by decide +kernel
theorem dX12_copy_97 : decode cX12_copy 97 = .ok (.getfield 127, 3) := by decide +kernel
theorem dX12_copy_100 : decode cX12_copy 100 = .ok (.iload_n 2, 1) := by decide +kernel
theorem dX12_copy_101 : decode cX12_copy 101 = .ok (.aload_n 0, 1) := by decide +kernel
theorem dX12_copy_102 : decode cX12_copy 102 = .ok (.getfield 127, 3) := by decide +kernel
theorem dX12_copy_105 : decode cX12_copy 105 = .ok (.iload_n 1, 1) := by decide +kernel
theorem dX12_copy_106 : decode cX12_copy 106 = .ok (.iaload, 1) := by decide +kernel
theorem dX12_copy_107 : decode cX12_copy 107 = .ok (.iastore, 1) := by decide +kernel
theorem dX12_copy_108 : decode cX12_copy 108 = .ok (.iconst 0, 1) := by decide +kernel
theorem dX12_copy_109 : decode cX12_copy 109 = .ok (.istore_n 3, 1) := by decide +kernel
theorem dX12_copy_110 : decode cX12_copy 110 = .ok (.iload_n 3, 1) := by decide +kernel
theorem dX12_copy_111 : decode cX12_copy 111 = .ok (.bipush 14, 2) := by decide +kernel
theorem dX12_copy_113 : decode cX12_copy 113 = .ok (.if_icmp .ge 119, 3) := by decide +kernel
theorem dX12_copy_116 : decode cX12_copy 116 = .ok (.aload_n 0, 1) := by decide +kernel
theorem dX12_copy_117 : decode cX12_copy 117 = .ok (.getfield 40, 3) := by decide +kernel
theorem dX12_copy_120 : decode cX12_copy 120 = .ok (.bipush 14, 2) := by decide +kernel
theorem dX12_copy_122 : decode cX12_copy 122 = .ok (.iload_n 2, 1) := by decide +kernel
theorem dX12_copy_123 : decode cX12_copy 123 = .ok (.imul, 1) := by decide +kernel
theorem dX12_copy_124 : decode cX12_copy 124 = .ok (.iload_n 3, 1) := by decide +kernel
theorem dX12_copy_125 : decode cX12_copy 125 = .ok (.iadd, 1) := by decide +kernel
theorem dX12_copy_126 : decode cX12_copy 126 = .ok (.aload_n 0, 1) := by decide +kernel
theorem dX12_copy_127 : decode cX12_copy 127 = .ok (.getfield 40, 3) := by decide +kernel
theorem dX12_copy_130 : decode cX12_copy 130 = .ok (.bipush 14, 2) := by decide +kernel
theorem dX12_copy_132 : decode cX12_copy 132 = .ok (.iload_n 1, 1) := by decide +kernel
theorem dX12_copy_133 : decode cX12_copy 133 = .ok (.imul, 1) := by decide +kernel
theorem dX12_copy_134 : decode cX12_copy 134 = .ok (.iload_n 3, 1) := by decide +kernel
theorem dX12_copy_135 : decode cX12_copy 135 = .ok (.iadd, 1) := by decide +kernel
theorem dX12_copy_136 : decode cX12_copy 136 = .ok (.baload, 1) := by decide +kernel
theorem dX12_copy_137 : decode cX12_copy 137 = .ok (.bastore, 1) := by decide +kernel
theorem dX12_copy_138 : decode cX12_copy 138 = .ok (.aload_n 0, 1) := by decide +kernel
theorem dX12_copy_139 : decode cX12_copy 139 = .ok (.getfield 43, 3) := by decide +kernel
theorem dX12_copy_142 : decode cX12_copy 142 = .ok (.bipush 14, 2) := by decide +kernel
theorem dX12_copy_144 : decode cX12_copy 144 = .ok (.iload_n 2, 1) := by decide +kernel
theorem dX12_copy_145 : decode cX12_copy 145 = .ok (.imul, 1) := by decide +kernel
theorem dX12_copy_146 : decode cX12_copy 146 = .ok (.iload_n 3, 1) := by decide +kernel
theorem dX12_copy_147 : decode cX12_copy 147 = .ok (.iadd, 1) := by decide +kernel
theorem dX12_copy_148 : decode cX12_copy 148 = .ok (.aload_n 0, 1) := by decide +kernel
theorem dX12_copy_149 : decode cX12_copy 149 = .ok (.getfield 43, 3) := by decide +kernel
theorem dX12_copy_152 : decode cX12_copy 152 = .ok (.bipush 14, 2) := by decide +kernel
theorem dX12_copy_154 : decode cX12_copy 154 = .ok (.iload_n 1, 1) := by decide +kernel
theorem dX12_copy_155 : decode cX12_copy 155 = .ok (.imul, 1) := by decide +kernel
theorem dX12_copy_156 : decode cX12_copy 156 = .ok (.iload_n 3, 1) := by decide +kernel
theorem dX12_copy_157 : decode cX12_copy 157 = .ok (.iadd, 1) := by decide +kernel
theorem dX12_copy_158 : decode cX12_copy 158 = .ok (.iaload, 1) := by decide +kernel
theorem dX12_copy_159 : decode cX12_copy 159 = .ok (.iastore, 1) := by decide +kernel
theorem dX12_copy_160 : decode cX12_copy 160 = .ok (.aload_n 0, 1) := by decide +kernel
theorem dX12_copy_161 : decode cX12_copy 161 = .ok (.getfield 46, 3) := by decide +kernel
theorem dX12_copy_164 : decode cX12_copy 164 = .ok (.bipush 14, 2) := by decide +kernel
theorem dX12_copy_166 : decode cX12_copy 166 = .ok (.iload_n 2, 1) := by decide +kernel
theorem dX12_copy_167 : decode cX12_copy 167 = .ok (.imul, 1) := by decide +kernel
theorem dX12_copy_168 : decode cX12_copy 168 = .ok (.iload_n 3, 1) := by decide +kernel
theorem dX12_copy_169 : decode cX12_copy 169 = .ok (.iadd, 1) := by decide +kernel
theorem dX12_copy_170 : decode cX12_copy 170 = .ok (.aload_n 0, 1) := by decide +kernel
theorem dX12_copy_171 : decode cX12_copy 171 = .ok (.getfield 46, 3) := by decide +kernel
theorem dX12_copy_174 : decode cX12_copy 174 = .ok (.bipush 14, 2) := by decide +kernel
theorem dX12_copy_176 : decode cX12_copy 176 = .ok (.iload_n 1, 1) := by decide +kernel
theorem dX12_copy_177 : decode cX12_copy 177 = .ok (.imul, 1) := by decide +kernel
theorem dX12_copy_178 : decode cX12_copy 178 = .ok (.iload_n 3, 1) := by decide +kernel
theorem dX12_copy_179 : decode cX12_copy 179 = .ok (.iadd, 1) := by decide +kernel
theorem dX12_copy_180 : decode cX12_copy 180 = .ok (.iaload, 1) := by decide +kernel
theorem dX12_copy_181 : decode cX12_copy 181 = .ok (.iastore, 1) := by decide +kernel
