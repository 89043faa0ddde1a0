theorem dX12_init_0 : decode cX12_init 0 = .ok (.aload_n 0, 1) := by decide +kernel
theorem dX12_init_1 : decode cX12_init 1 = .ok (.invokespecial 1, 3) := by decide +kernel
theorem dX12_init_4 : decode cX12_init 4 = .ok (.aload_n 0, 1) := by decide +kernel
theorem dX12_init_5 : decode cX12_init 5 = .ok (.bipush 6, 2) := by decide +kernel
theorem dX12_init_7 : decode cX12_init 7 = .ok (.newarray .int, 2) := by decide +kernel
theorem dX12_init_9 : decode cX12_init 9 = .ok (.putfield 7, 3) := by decide +kernel
theorem dX12_init_12 : decode cX12_init 12 = .ok (.aload_n 0, 1) := by decide +kernel
theorem dX12_init_13 : decode cX12_init 13 = .ok (.iconst 3, 1) := by decide +kernel
theorem dX12_init_14 : decode cX12_init 14 = .ok (.newarray .int, 2) := by decide +kernel
theorem dX12_init_16 : decode cX12_init 16 = .ok (.putfield 13, 3) := by decide +kernel
theorem dX12_init_19 : decode cX12_init 19 = .ok (.aload_n 0, 1) := by decide +kernel
theorem dX12_init_20 : decode cX12_init 20 = .ok (.bipush 8, 2) := by decide +kernel
theorem dX12_init_22 : decode cX12_init 22 = .ok (.newarray .int, 2) := by decide +kernel
theorem dX12_init_24 : decode cX12_init 24 = .ok (.putfield 16, 3) := by decide +kernel
theorem dX12_init_27 : decode cX12_init 27 = .ok (.aload_n 0, 1) := by decide +kernel
theorem dX12_init_28 : decode cX12_init 28 = .ok (.sipush 640, 3) := by decide +kernel
theorem dX12_init_31 : decode cX12_init 31 = .ok (.newarray .int, 2) := by decide +kernel
theorem dX12_init_33 : decode cX12_init 33 = .ok (.putfield 19, 3) := by decide +kernel
theorem dX12_init_36 : decode cX12_init 36 = .ok (.aload_n 0, 1) := by decide +kernel
theorem dX12_init_37 : decode cX12_init 37 = .ok (.iconst 4, 1) := by decide +kernel
theorem dX12_init_38 : decode cX12_init 38 = .ok (.newarray .long, 2) := by decide +kernel
theorem dX12_init_40 : decode cX12_init 40 = .ok (.putfield 22, 3) := by decide +kernel
theorem dX12_init_43 : decode cX12_init 43 = .ok (.aload_n 0, 1) := by decide +kernel
theorem dX12_init_44 : decode cX12_init 44 = .ok (.bipush 40, 2) := by decide +kernel
theorem dX12_init_46 : decode cX12_init 46 = .ok (.newarray .int, 2) := by decide +kernel
theorem dX12_init_48 : decode cX12_init 48 = .ok (.putfield 26, 3) := by decide +kernel
theorem dX12_init_51 : decode cX12_init 51 = .ok (.aload_n 0, 1) := by decide +kernel
theorem dX12_init_52 : decode cX12_init 52 = .ok (.bipush 40, 2) := by decide +kernel
theorem dX12_init_54 : decode cX12_init 54 = .ok (.newarray .int, 2) := by decide +kernel
theorem dX12_init_56 : decode cX12_init 56 = .ok (.putfield 29, 3) := by decide +kernel
theorem dX12_init_59 : decode cX12_init 59 = .ok (.aload_n 0, 1) := by decide +kernel
theorem dX12_init_60 : decode cX12_init 60 = .ok (.bipush 40, 2) := by decide +kernel
theorem dX12_init_62 : decode cX12_init 62 = .ok (.newarray .int, 2) := by decide +kernel
theorem dX12_init_64 : decode cX12_init 64 = .ok (.putfield 32, 3) := by decide +kernel
theorem dX12_init_67 : decode cX12_init 67 = .ok (.aload_n 0, 1) := by decide +kernel
theorem dX12_init_68 : decode cX12_init 68 = .ok (.bipush 40, 2) := by decide +kernel
theorem dX12_init_70 : decode cX12_init 70 = .ok (.newarray .int, 2) := by decide +kernel
theorem dX12_init_72 : decode cX12_init 72 = .ok (.putfield 35, 3) := by decide +kernel
theorem dX12_init_75 : decode cX12_init 75 = .ok (.aload_n 0, 1) := by decide +kernel
theorem dX12_init_76 : decode cX12_init 76 = .ok (.bipush 40, 2) := by decide +kernel
theorem dX12_init_78 : decode cX12_init 78 = .ok (.newarray .int, 2) := by decide +kernel
theorem dX12_init_80 : decode cX12_init 80 = .ok (.putfield 38, 3) := by decide +kernel
theorem dX12_init_83 : decode cX12_init 83 = .ok (.aload_n 0, 1) := by decide +kernel
theorem dX12_init_84 : decode cX12_init 84 = .ok (.bipush 120, 2) := by decide +kernel
theorem dX12_init_86 : decode cX12_init 86 = .ok (.newarray .int, 2) := by decide +kernel
theorem dX12_init_88 : decode cX12_init 88 = .ok (.putfield 41, 3) := by decide +kernel
theorem dX12_init_91 : decode cX12_init 91 = .ok (.aload_n 0, 1) := by decide +kernel
theorem dX12_init_92 : decode cX12_init 92 = .ok (.bipush 120, 2) := by decide +kernel
theorem dX12_init_94 : decode cX12_init 94 = .ok (.newarray .int, 2) := by decide +kernel
theorem dX12_init_96 : decode cX12_init 96 = .ok (.putfield 44, 3) := by decide +kernel
theorem dX12_init_99 : decode cX12_init 99 = .ok (.aload_n 0, 1) := by decide +kernel
theorem dX12_init_100 : decode cX12_init 100 = .ok (.bipush 120, 2) := by decide +kernel
theorem dX12_init_102 : decode cX12_init 102 = .ok (.newarray .int, 2) := by decide +kernel
theorem dX12_init_104 : decode cX12_init 104 = .ok (.putfield 47, 3) := by decide +kernel
theorem dX12_init_107 : decode cX12_init 107 = .ok (.aload_n 0, 1) := by decide +kernel
theorem dX12_init_108 : decode cX12_init 108 = .ok (.bipush 40, 2) := by decide +kernel
theorem dX12_init_110 : decode cX12_init 110 = .ok (.newarray .int, 2) := by decide +kernel
theorem dX12_init_112 : decode cX12_init 112 = .ok (.putfield 50, 3) := by decide +kernel
theorem dX12_init_115 : decode cX12_init 115 = .ok (.aload_n 0, 1) := by decide +kernel
theorem dX12_init_116 : decode cX12_init 116 = .ok (.bipush 40, 2) := by decide +kernel
theorem dX12_init_118 : decode cX12_init 118 = .ok (.newarray .int, 2) := by decide +kernel
theorem dX12_init_120 : decode cX12_init 120 = .ok (.putfield 53, 3) := by decide +kernel
theorem dX12_init_123 : decode cX12_init 123 = .ok (.aload_n 0, 1) := by decide +kernel
theorem dX12_init_124 : decode cX12_init 124 = .ok (.bipush 40, 2) := by decide +kernel
theorem dX12_init_126 : decode cX12_init 126 = .ok (.newarray .int, 2) := by decide +kernel
theorem dX12_init_128 : decode cX12_init 128 = .ok (.putfield 56, 3) := by decide +kernel
theorem dX12_init_131 : decode cX12_init 131 = .ok (.aload_n 0, 1) := by decide +kernel
theorem dX12_init_132 : decode cX12_init 132 = .ok (.sipush 480, 3) := by decide +kernel
theorem dX12_init_135 : decode cX12_init 135 = .ok (.newarray .byte, 2) := by decide +kernel
theorem dX12_init_137 : decode cX12_init 137 = .ok (.putfield 59, 3) := by decide +kernel
theorem dX12_init_140 : decode cX12_init 140 = .ok (.aload_n 0, 1) := by decide +kernel
theorem dX12_init_141 : decode cX12_init 141 = .ok (.bipush 12, 2) := by decide +kernel
theorem dX12_init_143 : decode cX12_init 143 = .ok (.newarray .byte, 2) := by decide +kernel
theorem dX12_init_145 : decode cX12_init 145 = .ok (.putfield 63, 3) := by decide +kernel
theorem dX12_init_148 : decode cX12_init 148 = .ok (.aload_n 0, 1) := by decide +kernel
theorem dX12_init_149 : decode cX12_init 149 = .ok (.bipush 8, 2) := by decide +kernel
theorem dX12_init_151 : decode cX12_init 151 = .ok (.newarray .int, 2) := by decide +kernel
theorem dX12_init_153 : decode cX12_init 153 = .ok (.putfield 66, 3) := by decide +kernel
theorem dX12_init_156 : decode cX12_init 156 = .ok (.aload_n 0, 1) := by decide +kernel
theorem dX12_init_157 : decode cX12_init 157 = .ok (.bipush 8, 2) := by decide +kernel
theorem dX12_init_159 : decode cX12_init 159 = .ok (.newarray .int, 2) := by decide +kernel
theorem dX12_init_161 : decode cX12_init 161 = .ok (.putfield 69, 3) := by decide +kernel
theorem dX12_init_164 : decode cX12_init 164 = .ok (.aload_n 0, 1) := by decide +kernel
theorem dX12_init_165 : decode cX12_init 165 = .ok (.sipush 160, 3) := by decide +kernel
theorem dX12_init_168 : decode cX12_init 168 = .ok (.newarray .int, 2) := by decide +kernel
theorem dX12_init_170 : decode cX12_init 170 = .ok (.putfield 72, 3) := by decide +kernel
theorem dX12_init_173 : decode cX12_init 173 = .ok (.aload_n 0, 1) := by decide +kernel
theorem dX12_init_174 : decode cX12_init 174 = .ok (.sipush 3200, 3) := by decide +kernel
theorem dX12_init_177 : decode cX12_init 177 = .ok (.newarray .long, 2) := by decide +kernel
theorem dX12_init_179 : decode cX12_init 179 = .ok (.putfield 75, 3) := by decide +kernel
theorem dX12_init_182 : decode cX12_init 182 = .ok (.aload_n 0, 1) := by decide +kernel
theorem dX12_init_183 : decode cX12_init 183 = .ok (.sipush 401, 3) := by decide +kernel
theorem dX12_init_186 : decode cX12_init 186 = .ok (.newarray .int, 2) := by decide +kernel
theorem dX12_init_188 : decode cX12_init 188 = .ok (.putfield 78, 3) := by decide +kernel
theorem dX12_init_191 : decode cX12_init 191 = .ok (.aload_n 0, 1) := by decide +kernel
theorem dX12_init_192 : decode cX12_init 192 = .ok (.sipush 1604, 3) := by decide +kernel
theorem dX12_init_195 : decode cX12_init 195 = .ok (.newarray .long, 2) := by decide +kernel
theorem dX12_init_197 : decode cX12_init 197 = .ok (.putfield 81, 3) := by decide +kernel
theorem dX12_init_200 : decode cX12_init 200 = .ok (.aload_n 0, 1) := by decide +kernel
theorem dX12_init_201 : decode cX12_init 201 = .ok (.bipush 41, 2) := by decide +kernel
theorem dX12_init_203 : decode cX12_init 203 = .ok (.newarray .int, 2) := by decide +kernel
theorem dX12_init_205 : decode cX12_init 205 = .ok (.putfield 84, 3) := by decide +kernel
theorem dX12_init_208 : decode cX12_init 208 = .ok (.aload_n 0, 1) := by decide +kernel
theorem dX12_init_209 : decode cX12_init 209 = .ok (.bipush 41, 2) := by decide +kernel
theorem dX12_init_211 : decode cX12_init 211 = .ok (.newarray .int, 2) := by decide +kernel
theorem dX12_init_213 : decode cX12_init 213 = .ok (.putfield 87, 3) := by decide +kernel
theorem dX12_init_216 : decode cX12_init 216 = .ok (.aload_n 0, 1) := by decide +kernel
theorem dX12_init_217 : decode cX12_init 217 = .ok (.bipush 41, 2) := by decide +kernel
theorem dX12_init_219 : decode cX12_init 219 = .ok (.newarray .long, 2) := by decide +kernel
theorem dX12_init_221 : decode cX12_init 221 = .ok (.putfield 90, 3) := by decide +kernel
theorem dX12_init_224 : decode cX12_init 224 = .ok (.aload_n 0, 1) := by decide +kernel
theorem dX12_init_225 : decode cX12_init 225 = .ok (.sipush 1200, 3) := by decide +kernel
theorem dX12_init_228 : decode cX12_init 228 = .ok (.newarray .long, 2) := by decide +kernel
theorem dX12_init_230 : decode cX12_init 230 = .ok (.putfield 93, 3) := by decide +kernel
theorem dX12_init_233 : decode cX12_init 233 = .ok (.aload_n 0, 1) := by decide +kernel
theorem dX12_init_234 : decode cX12_init 234 = .ok (.sipush 1200, 3) := by decide +kernel
theorem dX12_init_237 : decode cX12_init 237 = .ok (.newarray .long, 2) := by decide +kernel
theorem dX12_init_239 : decode cX12_init 239 = .ok (.putfield 96, 3) := by decide +kernel
theorem dX12_init_242 : decode cX12_init 242 = .ok (.aload_n 0, 1) := by decide +kernel
theorem dX12_init_243 : decode cX12_init 243 = .ok (.bipush 40, 2) := by decide +kernel
theorem dX12_init_245 : decode cX12_init 245 = .ok (.newarray .int, 2) := by decide +kernel
theorem dX12_init_247 : decode cX12_init 247 = .ok (.putfield 99, 3) := by decide +kernel
theorem dX12_init_250 : decode cX12_init 250 = .ok (.aload_n 0, 1) := by decide +kernel
theorem dX12_init_251 : decode cX12_init 251 = .ok (.sipush 4480, 3) := by decide +kernel
theorem dX12_init_254 : decode cX12_init 254 = .ok (.newarray .int, 2) := by decide +kernel
theorem dX12_init_256 : decode cX12_init 256 = .ok (.putfield 102, 3) := by decide +kernel
theorem dX12_init_259 : decode cX12_init 259 = .ok (.aload_n 0, 1) := by decide +kernel
theorem dX12_init_260 : decode cX12_init 260 = .ok (.sipush 800, 3) := by decide +kernel
theorem dX12_init_263 : decode cX12_init 263 = .ok (.newarray .int, 2) := by decide +kernel
theorem dX12_init_265 : decode cX12_init 265 = .ok (.putfield 105, 3) := by decide +kernel
theorem dX12_init_268 : decode cX12_init 268 = .ok (.aload_n 0, 1) := by decide +kernel
theorem dX12_init_269 : decode cX12_init 269 = .ok (.ldc 108, 2) := by decide +kernel
theorem dX12_init_271 : decode cX12_init 271 = .ok (.newarray .int, 2) := by decide +kernel
theorem dX12_init_273 : decode cX12_init 273 = .ok (.putfield 109, 3) := by decide +kernel
theorem dX12_init_276 : decode cX12_init 276 = .ok (.aload_n 0, 1) := by decide +kernel
theorem dX12_init_277 : decode cX12_init 277 = .ok (.bipush 40, 2) := by decide +kernel
theorem dX12_init_279 : decode cX12_init 279 = .ok (.newarray .int, 2) := by decide +kernel
theorem dX12_init_281 : decode cX12_init 281 = .ok (.putfield 112, 3) := by decide +kernel
theorem dX12_init_284 : decode cX12_init 284 = .ok (.aload_n 0, 1) := by decide +kernel
theorem dX12_init_285 : decode cX12_init 285 = .ok (.sipush 4480, 3) := by decide +kernel
theorem dX12_init_288 : decode cX12_init 288 = .ok (.newarray .int, 2) := by decide +kernel
theorem dX12_init_290 : decode cX12_init 290 = .ok (.putfield 115, 3) := by decide +kernel
theorem dX12_init_293 : decode cX12_init 293 = .ok (.aload_n 0, 1) := by decide +kernel
theorem dX12_init_294 : decode cX12_init 294 = .ok (.iconst 5, 1) := by decide +kernel
theorem dX12_init_295 : decode cX12_init 295 = .ok (.newarray .long, 2) := by decide +kernel
theorem dX12_init_297 : decode cX12_init 297 = .ok (.putfield 118, 3) := by decide +kernel
theorem dX12_init_300 : decode cX12_init 300 = .ok (.aload_n 0, 1) := by decide +kernel
theorem dX12_init_301 : decode cX12_init 301 = .ok (.sipush 6400, 3) := by decide +kernel
theorem dX12_init_304 : decode cX12_init 304 = .ok (.newarray .long, 2) := by decide +kernel
theorem dX12_init_306 : decode cX12_init 306 = .ok (.putfield 121, 3) := by decide +kernel
theorem dX12_init_309 : decode cX12_init 309 = .ok (.aload_n 0, 1) := by decide +kernel
theorem dX12_init_310 : decode cX12_init 310 = .ok (.sipush 401, 3) := by decide +kernel
theorem dX12_init_313 : decode cX12_init 313 = .ok (.newarray .int, 2) := by decide +kernel
theorem dX12_init_315 : decode cX12_init 315 = .ok (.putfield 124, 3) := by decide +kernel
theorem dX12_init_318 : decode cX12_init 318 = .ok (.aload_n 0, 1) := by decide +kernel
theorem dX12_init_319 : decode cX12_init 319 = .ok (.sipush 401, 3) := by decide +kernel
theorem dX12_init_322 : decode cX12_init 322 = .ok (.newarray .int, 2) := by decide +kernel
theorem dX12_init_324 : decode cX12_init 324 = .ok (.putfield 127, 3) := by decide +kernel
theorem dX12_init_327 : decode cX12_init 327 = .ok (.aload_n 0, 1) := by decide +kernel
theorem dX12_init_328 : decode cX12_init 328 = .ok (.bipush 6, 2) := by decide +kernel
theorem dX12_init_330 : decode cX12_init 330 = .ok (.newarray .int, 2) := by decide +kernel
theorem dX12_init_332 : decode cX12_init 332 = .ok (.putfield 130, 3) := by decide +kernel
theorem dX12_init_335 : decode cX12_init 335 = .ok (.aload_n 0, 1) := by decide +kernel
theorem dX12_init_336 : decode cX12_init 336 = .ok (.bipush 17, 2) := by decide +kernel
theorem dX12_init_338 : decode cX12_init 338 = .ok (.newarray .int, 2) := by decide +kernel
theorem dX12_init_340 : decode cX12_init 340 = .ok (.putfield 133, 3) := by decide +kernel
theorem dX12_init_343 : decode cX12_init 343 = .ok (.aload_n 0, 1) := by decide +kernel
theorem dX12_init_344 : decode cX12_init 344 = .ok (.bipush 17, 2) := by decide +kernel
theorem dX12_init_346 : decode cX12_init 346 = .ok (.newarray .long, 2) := by decide +kernel
theorem dX12_init_348 : decode cX12_init 348 = .ok (.putfield 136, 3) := by decide +kernel
theorem dX12_init_351 : decode cX12_init 351 = .ok (.aload_n 0, 1) := by decide +kernel
theorem dX12_init_352 : decode cX12_init 352 = .ok (.bipush 17, 2) := by decide +kernel
theorem dX12_init_354 : decode cX12_init 354 = .ok (.newarray .long, 2) := by decide +kernel
theorem dX12_init_356 : decode cX12_init 356 = .ok (.putfield 139, 3) := by decide +kernel
theorem dX12_init_359 : decode cX12_init 359 = .ok (.aload_n 0, 1) := by decide +kernel
theorem dX12_init_360 : decode cX12_init 360 = .ok (.sipush 401, 3) := by decide +kernel
theorem dX12_init_363 : decode cX12_init 363 = .ok (.newarray .int, 2) := by decide +kernel
theorem dX12_init_365 : decode cX12_init 365 = .ok (.putfield 142, 3) := by decide +kernel
theorem dX12_init_368 : decode cX12_init 368 = .ok (.aload_n 0, 1) := by decide +kernel
theorem dX12_init_369 : decode cX12_init 369 = .ok (.iconst 1, 1) := by decide +kernel
theorem dX12_init_370 : decode cX12_init 370 = .ok (.putfield 145, 3) := by decide +kernel
theorem dX12_init_373 : decode cX12_init 373 = .ok (.aload_n 0, 1) := by decide +kernel
theorem dX12_init_374 : decode cX12_init 374 = .ok (.getfield 130, 3) := by decide +kernel
theorem dX12_init_377 : decode cX12_init 377 = .ok (.iconst 1, 1) := by decide +kernel
theorem dX12_init_378 : decode cX12_init 378 = .ok (.bipush (-9), 2) := by decide +kernel
theorem dX12_init_380 : decode cX12_init 380 = .ok (.iastore, 1) := by decide +kernel
theorem dX12_init_381 : decode cX12_init 381 = .ok (.iconst 2, 1) := by decide +kernel
theorem dX12_init_382 : decode cX12_init 382 = .ok (.istore_n 1, 1) := by decide +kernel
theorem dX12_init_383 : decode cX12_init 383 = .ok (.iload_n 1, 1) := by decide +kernel
theorem dX12_init_384 : decode cX12_init 384 = .ok (.bipush 6, 2) := by decide +kernel
theorem dX12_init_386 : decode cX12_init 386 = .ok (.if_icmp .ge 17, 3) := by decide +kernel
theorem dX12_init_389 : decode cX12_init 389 = .ok (.aload_n 0, 1) := by decide +kernel
theorem dX12_init_390 : decode cX12_init 390 = .ok (.getfield 130, 3) := by decide +kernel
theorem dX12_init_393 : decode cX12_init 393 = .ok (.iload_n 1, 1) := by decide +kernel
theorem dX12_init_394 : decode cX12_init 394 = .ok (.bipush (-9), 2) := by decide +kernel
theorem dX12_init_396 : decode cX12_init 396 = .ok (.iastore, 1) := by decide +kernel
theorem dX12_init_397 : decode cX12_init 397 = .ok (.iinc 1 1, 3) := by decide +kernel
theorem dX12_init_400 : decode cX12_init 400 = .ok (.goto (-17), 3) := by decide +kernel
theorem dX12_init_403 : decode cX12_init 403 = .ok (.return_, 1) := by decide +kernel
theorem dX12_in_0 : decode cX12_in 0 = .ok (.lload_n 0, 1) := by decide +kernel
theorem dX12_in_1 : decode cX12_in 1 = .ok (.lload_n 2, 1) := by decide +kernel
theorem dX12_in_2 : decode cX12_in 2 = .ok (.lcmp, 1) := by decide +kernel
theorem dX12_in_3 : decode cX12_in 3 = .ok (.ifCond .lt 14, 3) := by decide +kernel
theorem dX12_in_6 : decode cX12_in 6 = .ok (.lload_n 0, 1) := by decide +kernel
theorem dX12_in_7 : decode cX12_in 7 = .ok (.lload 4, 2) := by decide +kernel
theorem dX12_in_9 : decode cX12_in 9 = .ok (.lcmp, 1) := by decide +kernel
theorem dX12_in_10 : decode cX12_in 10 = .ok (.ifCond .gt 7, 3) := by decide +kernel
theorem dX12_in_13 : decode cX12_in 13 = .ok (.iconst 1, 1) := by decide +kernel
theorem dX12_in_14 : decode cX12_in 14 = .ok (.goto 4, 3) := by decide +kernel
theorem dX12_in_17 : decode cX12_in 17 = .ok (.iconst 0, 1) := by decide +kernel
theorem dX12_in_18 : decode cX12_in 18 = .ok (.ireturn, 1) := by decide +kernel
theorem dX12_meets_0 : decode cX12_meets 0 = .ok (.aload_n 0, 1) := by decide +kernel
theorem dX12_meets_1 : decode cX12_meets 1 = .ok (.iload_n 1, 1) := by decide +kernel
theorem dX12_meets_2 : decode cX12_meets 2 = .ok (.putfield 149, 3) := by decide +kernel
theorem dX12_meets_5 : decode cX12_meets 5 = .ok (.aload_n 0, 1) := by decide +kernel
theorem dX12_meets_6 : decode cX12_meets 6 = .ok (.getfield 7, 3) := by decide +kernel
theorem dX12_meets_9 : decode cX12_meets 9 = .ok (.iload_n 1, 1) := by decide +kernel
theorem dX12_meets_10 : decode cX12_meets 10 = .ok (.dup2, 1) := by decide +kernel
theorem dX12_meets_11 : decode cX12_meets 11 = .ok (.iaload, 1) := by decide +kernel
theorem dX12_meets_12 : decode cX12_meets 12 = .ok (.iconst 1, 1) := by decide +kernel
theorem dX12_meets_13 : decode cX12_meets 13 = .ok (.iadd, 1) := by decide +kernel
theorem dX12_meets_14 : decode cX12_meets 14 = .ok (.iastore, 1) := by decide +kernel
theorem dX12_meets_15 : decode cX12_meets 15 = .ok (.bipush (-3), 2) := by decide +kernel
theorem dX12_meets_17 : decode cX12_meets 17 = .ok (.ireturn, 1) := by decide +kernel
theorem dX12_finding_0 : decode cX12_finding 0 = .ok (.aload_n 0, 1) := by decide +kernel
theorem dX12_finding_1 : decode cX12_finding 1 = .ok (.getfield 149, 3) := by decide +kernel
theorem dX12_finding_4 : decode cX12_finding 4 = .ok (.ireturn, 1) := by decide +kernel
theorem dX12_findings_0 : decode cX12_findings 0 = .ok (.iload_n 1, 1) := by decide +kernel
theorem dX12_findings_1 : decode cX12_findings 1 = .ok (.i2l, 1) := by decide +kernel
theorem dX12_findings_2 : decode cX12_findings 2 = .ok (.lconst 1, 1) := by decide +kernel
theorem dX12_findings_3 : decode cX12_findings 3 = .ok (.ldc2_w 152, 3) := by decide +kernel
theorem dX12_findings_6 : decode cX12_findings 6 = .ok (.invokestatic 154, 3) := by decide +kernel
theorem dX12_findings_9 : decode cX12_findings 9 = .ok (.ifCond .eq 12, 3) := by decide +kernel
theorem dX12_findings_12 : decode cX12_findings 12 = .ok (.aload_n 0, 1) := by decide +kernel
theorem dX12_findings_13 : decode cX12_findings 13 = .ok (.getfield 7, 3) := by decide +kernel
theorem dX12_findings_16 : decode cX12_findings 16 = .ok (.iload_n 1, 1) := by decide +kernel
theorem dX12_findings_17 : decode cX12_findings 17 = .ok (.iaload, 1) := by decide +kernel
theorem dX12_findings_18 : decode cX12_findings 18 = .ok (.goto 4, 3) := by decide +kernel
theorem dX12_findings_21 : decode cX12_findings 21 = .ok (.iconst (-1), 1) := by decide +kernel
theorem dX12_findings_22 : decode cX12_findings 22 = .ok (.ireturn, 1) := by decide +kernel
theorem dX12_size_0 : decode cX12_size 0 = .ok (.iload_n 1, 1) := by decide +kernel
theorem dX12_size_1 : decode cX12_size 1 = .ok (.i2l, 1) := by decide +kernel
theorem dX12_size_2 : decode cX12_size 2 = .ok (.lconst 0, 1) := by decide +kernel
theorem dX12_size_3 : decode cX12_size 3 = .ok (.ldc2_w 158, 3) := by decide +kernel
theorem dX12_size_6 : decode cX12_size 6 = .ok (.invokestatic 154, 3) := by decide +kernel
theorem dX12_size_9 : decode cX12_size 9 = .ok (.ifCond .eq 17, 3) := by decide +kernel
theorem dX12_size_12 : decode cX12_size 12 = .ok (.iload_n 2, 1) := by decide +kernel
theorem dX12_size_13 : decode cX12_size 13 = .ok (.i2l, 1) := by decide +kernel
theorem dX12_size_14 : decode cX12_size 14 = .ok (.ldc2_w 160, 3) := by decide +kernel
theorem dX12_size_17 : decode cX12_size 17 = .ok (.ldc2_w 162, 3) := by decide +kernel
theorem dX12_size_20 : decode cX12_size 20 = .ok (.invokestatic 154, 3) := by decide +kernel
theorem dX12_size_23 : decode cX12_size 23 = .ok (.ifCond .ne 7, 3) := by decide +kernel
theorem dX12_size_26 : decode cX12_size 26 = .ok (.sipush (-1000), 3) := by decide +kernel
theorem dX12_size_29 : decode cX12_size 29 = .ok (.ireturn, 1) := by decide +kernel
theorem dX12_size_30 : decode cX12_size 30 = .ok (.aload_n 0, 1) := by decide +kernel
theorem dX12_size_31 : decode cX12_size 31 = .ok (.getfield 13, 3) := by decide +kernel
theorem dX12_size_34 : decode cX12_size 34 = .ok (.iload_n 1, 1) := by decide +kernel
theorem dX12_size_35 : decode cX12_size 35 = .ok (.iaload, 1) := by decide +kernel
theorem dX12_size_36 : decode cX12_size 36 = .ok (.istore_n 3, 1) := by decide +kernel
theorem dX12_size_37 : decode cX12_size 37 = .ok (.aload_n 0, 1) := by decide +kernel
theorem dX12_size_38 : decode cX12_size 38 = .ok (.getfield 13, 3) := by decide +kernel
theorem dX12_size_41 : decode cX12_size 41 = .ok (.iload_n 1, 1) := by decide +kernel
theorem dX12_size_42 : decode cX12_size 42 = .ok (.iload_n 2, 1) := by decide +kernel
theorem dX12_size_43 : decode cX12_size 43 = .ok (.iastore, 1) := by decide +kernel
theorem dX12_size_44 : decode cX12_size 44 = .ok (.iload_n 3, 1) := by decide +kernel
theorem dX12_size_45 : decode cX12_size 45 = .ok (.ireturn, 1) := by decide +kernel
theorem dX12_term_0 : decode cX12_term 0 = .ok (.iload_n 1, 1) := by decide +kernel
theorem dX12_term_1 : decode cX12_term 1 = .ok (.i2l, 1) := by decide +kernel
theorem dX12_term_2 : decode cX12_term 2 = .ok (.lconst 0, 1) := by decide +kernel
theorem dX12_term_3 : decode cX12_term 3 = .ok (.ldc2_w 164, 3) := by decide +kernel
theorem dX12_term_6 : decode cX12_term 6 = .ok (.invokestatic 154, 3) := by decide +kernel
theorem dX12_term_9 : decode cX12_term 9 = .ok (.ifCond .eq 17, 3) := by decide +kernel
theorem dX12_term_12 : decode cX12_term 12 = .ok (.iload_n 2, 1) := by decide +kernel
theorem dX12_term_13 : decode cX12_term 13 = .ok (.i2l, 1) := by decide +kernel
theorem dX12_term_14 : decode cX12_term 14 = .ok (.ldc2_w 166, 3) := by decide +kernel
theorem dX12_term_17 : decode cX12_term 17 = .ok (.ldc2_w 168, 3) := by decide +kernel
theorem dX12_term_20 : decode cX12_term 20 = .ok (.invokestatic 154, 3) := by decide +kernel
theorem dX12_term_23 : decode cX12_term 23 = .ok (.ifCond .ne 5, 3) := by decide +kernel
theorem dX12_term_26 : decode cX12_term 26 = .ok (.iconst (-1), 1) := by decide +kernel
theorem dX12_term_27 : decode cX12_term 27 = .ok (.ireturn, 1) := by decide +kernel
theorem dX12_term_28 : decode cX12_term 28 = .ok (.aload_n 0, 1) := by decide +kernel
theorem dX12_term_29 : decode cX12_term 29 = .ok (.getfield 16, 3) := by decide +kernel
theorem dX12_term_32 : decode cX12_term 32 = .ok (.iload_n 1, 1) := by decide +kernel
theorem dX12_term_33 : decode cX12_term 33 = .ok (.iload_n 2, 1) := by decide +kernel
theorem dX12_term_34 : decode cX12_term 34 = .ok (.iastore, 1) := by decide +kernel
theorem dX12_term_35 : decode cX12_term 35 = .ok (.iconst 1, 1) := by decide +kernel
theorem dX12_term_36 : decode cX12_term 36 = .ok (.ireturn, 1) := by decide +kernel
theorem dX12_sum_0 : decode cX12_sum 0 = .ok (.aload_n 0, 1) := by decide +kernel
theorem dX12_sum_1 : decode cX12_sum 1 = .ok (.getfield 145, 3) := by decide +kernel
theorem dX12_sum_4 : decode cX12_sum 4 = .ok (.bipush 80, 2) := by decide +kernel
theorem dX12_sum_6 : decode cX12_sum 6 = .ok (.if_icmp .ne 6, 3) := by decide +kernel
theorem dX12_sum_9 : decode cX12_sum 9 = .ok (.bipush (-2), 2) := by decide +kernel
theorem dX12_sum_11 : decode cX12_sum 11 = .ok (.ireturn, 1) := by decide +kernel
theorem dX12_sum_12 : decode cX12_sum 12 = .ok (.iconst 0, 1) := by decide +kernel
theorem dX12_sum_13 : decode cX12_sum 13 = .ok (.istore_n 1, 1) := by decide +kernel
theorem dX12_sum_14 : decode cX12_sum 14 = .ok (.iload_n 1, 1) := by decide +kernel
theorem dX12_sum_15 : decode cX12_sum 15 = .ok (.bipush 8, 2) := by decide +kernel
theorem dX12_sum_17 : decode cX12_sum 17 = .ok (.if_icmp .ge 36, 3) := by decide +kernel
theorem dX12_sum_20 : decode cX12_sum 20 = .ok (.aload_n 0, 1) := by decide +kernel
theorem dX12_sum_21 : decode cX12_sum 21 = .ok (.getfield 19, 3) := by decide +kernel
theorem dX12_sum_24 : decode cX12_sum 24 = .ok (.bipush 8, 2) := by decide +kernel
theorem dX12_sum_26 : decode cX12_sum 26 = .ok (.aload_n 0, 1) := by decide +kernel
theorem dX12_sum_27 : decode cX12_sum 27 = .ok (.getfield 145, 3) := by decide +kernel
theorem dX12_sum_30 : decode cX12_sum 30 = .ok (.imul, 1) := by decide +kernel
theorem dX12_sum_31 : decode cX12_sum 31 = .ok (.iload_n 1, 1) := by decide +kernel
theorem dX12_sum_32 : decode cX12_sum 32 = .ok (.iadd, 1) := by decide +kernel
theorem dX12_sum_33 : decode cX12_sum 33 = .ok (.aload_n 0, 1) := by decide +kernel
theorem dX12_sum_34 : decode cX12_sum 34 = .ok (.getfield 16, 3) := by decide +kernel
theorem dX12_sum_37 : decode cX12_sum 37 = .ok (.iload_n 1, 1) := by decide +kernel
theorem dX12_sum_38 : decode cX12_sum 38 = .ok (.iaload, 1) := by decide +kernel
theorem dX12_sum_39 : decode cX12_sum 39 = .ok (.iastore, 1) := by decide +kernel
theorem dX12_sum_40 : decode cX12_sum 40 = .ok (.aload_n 0, 1) := by decide +kernel
theorem dX12_sum_41 : decode cX12_sum 41 = .ok (.getfield 16, 3) := by decide +kernel
theorem dX12_sum_44 : decode cX12_sum 44 = .ok (.iload_n 1, 1) := by decide +kernel
theorem dX12_sum_45 : decode cX12_sum 45 = .ok (.iconst 0, 1) := by decide +kernel
theorem dX12_sum_46 : decode cX12_sum 46 = .ok (.iastore, 1) := by decide +kernel
theorem dX12_sum_47 : decode cX12_sum 47 = .ok (.iinc 1 1, 3) := by decide +kernel
theorem dX12_sum_50 : decode cX12_sum 50 = .ok (.goto (-36), 3) := by decide +kernel
theorem dX12_sum_53 : decode cX12_sum 53 = .ok (.aload_n 0, 1) := by decide +kernel
theorem dX12_sum_54 : decode cX12_sum 54 = .ok (.dup, 1) := by decide +kernel
theorem dX12_sum_55 : decode cX12_sum 55 = .ok (.getfield 145, 3) := by decide +kernel
theorem dX12_sum_58 : decode cX12_sum 58 = .ok (.iconst 1, 1) := by decide +kernel
theorem dX12_sum_59 : decode cX12_sum 59 = .ok (.iadd, 1) := by decide +kernel
theorem dX12_sum_60 : decode cX12_sum 60 = .ok (.putfield 145, 3) := by decide +kernel
theorem dX12_sum_63 : decode cX12_sum 63 = .ok (.aload_n 0, 1) := by decide +kernel
theorem dX12_sum_64 : decode cX12_sum 64 = .ok (.getfield 145, 3) := by decide +kernel
theorem dX12_sum_67 : decode cX12_sum 67 = .ok (.iconst 1, 1) := by decide +kernel
theorem dX12_sum_68 : decode cX12_sum 68 = .ok (.isub, 1) := by decide +kernel
theorem dX12_sum_69 : decode cX12_sum 69 = .ok (.ireturn, 1) := by decide +kernel
theorem dX12_isSum_0 : decode cX12_isSum 0 = .ok (.iload_n 1, 1) := by decide +kernel
theorem dX12_isSum_1 : decode cX12_isSum 1 = .ok (.i2l, 1) := by decide +kernel
theorem dX12_isSum_2 : decode cX12_isSum 2 = .ok (.lconst 0, 1) := by decide +kernel
theorem dX12_isSum_3 : decode cX12_isSum 3 = .ok (.aload_n 0, 1) := by decide +kernel
theorem dX12_isSum_4 : decode cX12_isSum 4 = .ok (.getfield 145, 3) := by decide +kernel
theorem dX12_isSum_7 : decode cX12_isSum 7 = .ok (.iconst 1, 1) := by decide +kernel
theorem dX12_isSum_8 : decode cX12_isSum 8 = .ok (.isub, 1) := by decide +kernel
theorem dX12_isSum_9 : decode cX12_isSum 9 = .ok (.i2l, 1) := by decide +kernel
theorem dX12_isSum_10 : decode cX12_isSum 10 = .ok (.invokestatic 154, 3) := by decide +kernel
theorem dX12_isSum_13 : decode cX12_isSum 13 = .ok (.ireturn, 1) := by decide +kernel
theorem dX12_hasLetters_0 : decode cX12_hasLetters 0 = .ok (.iconst 1, 1) := by decide +kernel
theorem dX12_hasLetters_1 : decode cX12_hasLetters 1 = .ok (.istore_n 3, 1) := by decide +kernel
theorem dX12_hasLetters_2 : decode cX12_hasLetters 2 = .ok (.iload_n 2, 1) := by decide +kernel
theorem dX12_hasLetters_3 : decode cX12_hasLetters 3 = .ok (.istore 4, 2) := by decide +kernel
theorem dX12_hasLetters_5 : decode cX12_hasLetters 5 = .ok (.iload 4, 2) := by decide +kernel
theorem dX12_hasLetters_7 : decode cX12_hasLetters 7 = .ok (.iconst 4, 1) := by decide +kernel
theorem dX12_hasLetters_8 : decode cX12_hasLetters 8 = .ok (.if_icmp .ge 36, 3) := by decide +kernel
theorem dX12_hasLetters_11 : decode cX12_hasLetters 11 = .ok (.iload_n 3, 1) := by decide +kernel
theorem dX12_hasLetters_12 : decode cX12_hasLetters 12 = .ok (.ifCond .eq 24, 3) := by decide +kernel
theorem dX12_hasLetters_15 : decode cX12_hasLetters 15 = .ok (.aload_n 0, 1) := by decide +kernel
theorem dX12_hasLetters_16 : decode cX12_hasLetters 16 = .ok (.getfield 19, 3) := by decide +kernel
theorem dX12_hasLetters_19 : decode cX12_hasLetters 19 = .ok (.bipush 8, 2) := by decide +kernel
theorem dX12_hasLetters_21 : decode cX12_hasLetters 21 = .ok (.iload_n 1, 1) := by decide +kernel
theorem dX12_hasLetters_22 : decode cX12_hasLetters 22 = .ok (.imul, 1) := by decide +kernel
theorem dX12_hasLetters_23 : decode cX12_hasLetters 23 = .ok (.iconst 4, 1) := by decide +kernel
theorem dX12_hasLetters_24 : decode cX12_hasLetters 24 = .ok (.iadd, 1) := by decide +kernel
theorem dX12_hasLetters_25 : decode cX12_hasLetters 25 = .ok (.iload 4, 2) := by decide +kernel
theorem dX12_hasLetters_27 : decode cX12_hasLetters 27 = .ok (.iadd, 1) := by decide +kernel
theorem dX12_hasLetters_28 : decode cX12_hasLetters 28 = .ok (.iaload, 1) := by decide +kernel
theorem dX12_hasLetters_29 : decode cX12_hasLetters 29 = .ok (.ifCond .ne 7, 3) := by decide +kernel
theorem dX12_hasLetters_32 : decode cX12_hasLetters 32 = .ok (.iconst 1, 1) := by decide +kernel
theorem dX12_hasLetters_33 : decode cX12_hasLetters 33 = .ok (.goto 4, 3) := by decide +kernel
theorem dX12_hasLetters_36 : decode cX12_hasLetters 36 = .ok (.iconst 0, 1) := by decide +kernel
theorem dX12_hasLetters_37 : decode cX12_hasLetters 37 = .ok (.istore_n 3, 1) := by decide +kernel
theorem dX12_hasLetters_38 : decode cX12_hasLetters 38 = .ok (.iinc 4 1, 3) := by decide +kernel
theorem dX12_hasLetters_41 : decode cX12_hasLetters 41 = .ok (.goto (-36), 3) := by decide +kernel
theorem dX12_hasLetters_44 : decode cX12_hasLetters 44 = .ok (.iload_n 3, 1) := by decide +kernel
theorem dX12_hasLetters_45 : decode cX12_hasLetters 45 = .ok (.ireturn, 1) := by decide +kernel
theorem dX12_valueOf_0 : decode cX12_valueOf 0 = .ok (.aload_n 0, 1) := by decide +kernel
theorem dX12_valueOf_1 : decode cX12_valueOf 1 = .ok (.getfield 19, 3) := by decide +kernel
theorem dX12_valueOf_4 : decode cX12_valueOf 4 = .ok (.bipush 8, 2) := by decide +kernel
theorem dX12_valueOf_6 : decode cX12_valueOf 6 = .ok (.iload_n 1, 1) := by decide +kernel
theorem dX12_valueOf_7 : decode cX12_valueOf 7 = .ok (.imul, 1) := by decide +kernel
theorem dX12_valueOf_8 : decode cX12_valueOf 8 = .ok (.iaload, 1) := by decide +kernel
theorem dX12_valueOf_9 : decode cX12_valueOf 9 = .ok (.i2l, 1) := by decide +kernel
theorem dX12_valueOf_10 : decode cX12_valueOf 10 = .ok (.lstore_n 2, 1) := by decide +kernel
theorem dX12_valueOf_11 : decode cX12_valueOf 11 = .ok (.iconst 0, 1) := by decide +kernel
theorem dX12_valueOf_12 : decode cX12_valueOf 12 = .ok (.istore 4, 2) := by decide +kernel
theorem dX12_valueOf_14 : decode cX12_valueOf 14 = .ok (.iload 4, 2) := by decide +kernel
theorem dX12_valueOf_16 : decode cX12_valueOf 16 = .ok (.iconst 3, 1) := by decide +kernel
theorem dX12_valueOf_17 : decode cX12_valueOf 17 = .ok (.if_icmp .ge 36, 3) := by decide +kernel
theorem dX12_valueOf_20 : decode cX12_valueOf 20 = .ok (.lload_n 2, 1) := by decide +kernel
theorem dX12_valueOf_21 : decode cX12_valueOf 21 = .ok (.aload_n 0, 1) := by decide +kernel
theorem dX12_valueOf_22 : decode cX12_valueOf 22 = .ok (.getfield 19, 3) := by decide +kernel
theorem dX12_valueOf_25 : decode cX12_valueOf 25 = .ok (.bipush 8, 2) := by decide +kernel
theorem dX12_valueOf_27 : decode cX12_valueOf 27 = .ok (.iload_n 1, 1) := by decide +kernel
theorem dX12_valueOf_28 : decode cX12_valueOf 28 = .ok (.imul, 1) := by decide +kernel
theorem dX12_valueOf_29 : decode cX12_valueOf 29 = .ok (.iconst 1, 1) := by decide +kernel
theorem dX12_valueOf_30 : decode cX12_valueOf 30 = .ok (.iadd, 1) := by decide +kernel
theorem dX12_valueOf_31 : decode cX12_valueOf 31 = .ok (.iload 4, 2) := by decide +kernel
theorem dX12_valueOf_33 : decode cX12_valueOf 33 = .ok (.iadd, 1) := by decide +kernel
theorem dX12_valueOf_34 : decode cX12_valueOf 34 = .ok (.iaload, 1) := by decide +kernel
theorem dX12_valueOf_35 : decode cX12_valueOf 35 = .ok (.i2l, 1) := by decide +kernel
theorem dX12_valueOf_36 : decode cX12_valueOf 36 = .ok (.aload_n 0, 1) := by decide +kernel
theorem dX12_valueOf_37 : decode cX12_valueOf 37 = .ok (.getfield 13, 3) := by decide +kernel
theorem dX12_valueOf_40 : decode cX12_valueOf 40 = .ok (.iload 4, 2) := by decide +kernel
theorem dX12_valueOf_42 : decode cX12_valueOf 42 = .ok (.iaload, 1) := by decide +kernel
theorem dX12_valueOf_43 : decode cX12_valueOf 43 = .ok (.i2l, 1) := by decide +kernel
theorem dX12_valueOf_44 : decode cX12_valueOf 44 = .ok (.lmul, 1) := by decide +kernel
theorem dX12_valueOf_45 : decode cX12_valueOf 45 = .ok (.ladd, 1) := by decide +kernel
theorem dX12_valueOf_46 : decode cX12_valueOf 46 = .ok (.lstore_n 2, 1) := by decide +kernel
theorem dX12_valueOf_47 : decode cX12_valueOf 47 = .ok (.iinc 4 1, 3) := by decide +kernel
theorem dX12_valueOf_50 : decode cX12_valueOf 50 = .ok (.goto (-36), 3) := by decide +kernel
theorem dX12_valueOf_53 : decode cX12_valueOf 53 = .ok (.iconst 0, 1) := by decide +kernel
theorem dX12_valueOf_54 : decode cX12_valueOf 54 = .ok (.istore 4, 2) := by decide +kernel
theorem dX12_valueOf_56 : decode cX12_valueOf 56 = .ok (.iload 4, 2) := by decide +kernel
theorem dX12_valueOf_58 : decode cX12_valueOf 58 = .ok (.iconst 4, 1) := by decide +kernel
theorem dX12_valueOf_59 : decode cX12_valueOf 59 = .ok (.if_icmp .ge 35, 3) := by decide +kernel
theorem dX12_valueOf_62 : decode cX12_valueOf 62 = .ok (.lload_n 2, 1) := by decide +kernel
theorem dX12_valueOf_63 : decode cX12_valueOf 63 = .ok (.aload_n 0, 1) := by decide +kernel
theorem dX12_valueOf_64 : decode cX12_valueOf 64 = .ok (.getfield 19, 3) := by decide +kernel
theorem dX12_valueOf_67 : decode cX12_valueOf 67 = .ok (.bipush 8, 2) := by decide +kernel
theorem dX12_valueOf_69 : decode cX12_valueOf 69 = .ok (.iload_n 1, 1) := by decide +kernel
theorem dX12_valueOf_70 : decode cX12_valueOf 70 = .ok (.imul, 1) := by decide +kernel
theorem dX12_valueOf_71 : decode cX12_valueOf 71 = .ok (.iconst 4, 1) := by decide +kernel
theorem dX12_valueOf_72 : decode cX12_valueOf 72 = .ok (.iadd, 1) := by decide +kernel
theorem dX12_valueOf_73 : decode cX12_valueOf 73 = .ok (.iload 4, 2) := by decide +kernel
theorem dX12_valueOf_75 : decode cX12_valueOf 75 = .ok (.iadd, 1) := by decide +kernel
theorem dX12_valueOf_76 : decode cX12_valueOf 76 = .ok (.iaload, 1) := by decide +kernel
theorem dX12_valueOf_77 : decode cX12_valueOf 77 = .ok (.i2l, 1) := by decide +kernel
theorem dX12_valueOf_78 : decode cX12_valueOf 78 = .ok (.aload_n 0, 1) := by decide +kernel
theorem dX12_valueOf_79 : decode cX12_valueOf 79 = .ok (.getfield 22, 3) := by decide +kernel
theorem dX12_valueOf_82 : decode cX12_valueOf 82 = .ok (.iload 4, 2) := by decide +kernel
theorem dX12_valueOf_84 : decode cX12_valueOf 84 = .ok (.laload, 1) := by decide +kernel
theorem dX12_valueOf_85 : decode cX12_valueOf 85 = .ok (.lmul, 1) := by decide +kernel
theorem dX12_valueOf_86 : decode cX12_valueOf 86 = .ok (.ladd, 1) := by decide +kernel
theorem dX12_valueOf_87 : decode cX12_valueOf 87 = .ok (.lstore_n 2, 1) := by decide +kernel
theorem dX12_valueOf_88 : decode cX12_valueOf 88 = .ok (.iinc 4 1, 3) := by decide +kernel
theorem dX12_valueOf_91 : decode cX12_valueOf 91 = .ok (.goto (-35), 3) := by decide +kernel
theorem dX12_valueOf_94 : decode cX12_valueOf 94 = .ok (.lload_n 2, 1) := by decide +kernel
theorem dX12_valueOf_95 : decode cX12_valueOf 95 = .ok (.lreturn, 1) := by decide +kernel
theorem dX12_isNode_0 : decode cX12_isNode 0 = .ok (.iload_n 1, 1) := by decide +kernel
theorem dX12_isNode_1 : decode cX12_isNode 1 = .ok (.i2l, 1) := by decide +kernel
theorem dX12_isNode_2 : decode cX12_isNode 2 = .ok (.lconst 0, 1) := by decide +kernel
theorem dX12_isNode_3 : decode cX12_isNode 3 = .ok (.aload_n 0, 1) := by decide +kernel
theorem dX12_isNode_4 : decode cX12_isNode 4 = .ok (.getfield 170, 3) := by decide +kernel
theorem dX12_isNode_7 : decode cX12_isNode 7 = .ok (.iconst 1, 1) := by decide +kernel
theorem dX12_isNode_8 : decode cX12_isNode 8 = .ok (.isub, 1) := by decide +kernel
theorem dX12_isNode_9 : decode cX12_isNode 9 = .ok (.i2l, 1) := by decide +kernel
theorem dX12_isNode_10 : decode cX12_isNode 10 = .ok (.invokestatic 154, 3) := by decide +kernel
theorem dX12_isNode_13 : decode cX12_isNode 13 = .ok (.ireturn, 1) := by decide +kernel
theorem dX12_isLoop_0 : decode cX12_isLoop 0 = .ok (.aload_n 0, 1) := by decide +kernel
theorem dX12_isLoop_1 : decode cX12_isLoop 1 = .ok (.getfield 26, 3) := by decide +kernel
theorem dX12_isLoop_4 : decode cX12_isLoop 4 = .ok (.iload_n 1, 1) := by decide +kernel
theorem dX12_isLoop_5 : decode cX12_isLoop 5 = .ok (.iaload, 1) := by decide +kernel
theorem dX12_isLoop_6 : decode cX12_isLoop 6 = .ok (.ifCond .eq 13, 3) := by decide +kernel
theorem dX12_isLoop_9 : decode cX12_isLoop 9 = .ok (.aload_n 0, 1) := by decide +kernel
theorem dX12_isLoop_10 : decode cX12_isLoop 10 = .ok (.getfield 26, 3) := by decide +kernel
theorem dX12_isLoop_13 : decode cX12_isLoop 13 = .ok (.iload_n 1, 1) := by decide +kernel
theorem dX12_isLoop_14 : decode cX12_isLoop 14 = .ok (.iaload, 1) := by decide +kernel
theorem dX12_isLoop_15 : decode cX12_isLoop 15 = .ok (.iconst 1, 1) := by decide +kernel
theorem dX12_isLoop_16 : decode cX12_isLoop 16 = .ok (.if_icmp .ne 7, 3) := by decide +kernel
theorem dX12_isLoop_19 : decode cX12_isLoop 19 = .ok (.iconst 1, 1) := by decide +kernel
theorem dX12_isLoop_20 : decode cX12_isLoop 20 = .ok (.goto 4, 3) := by decide +kernel
theorem dX12_isLoop_23 : decode cX12_isLoop 23 = .ok (.iconst 0, 1) := by decide +kernel
theorem dX12_isLoop_24 : decode cX12_isLoop 24 = .ok (.ireturn, 1) := by decide +kernel
theorem dX12_depthIn_0 : decode cX12_depthIn 0 = .ok (.iload_n 1, 1) := by decide +kernel
theorem dX12_depthIn_1 : decode cX12_depthIn 1 = .ok (.bipush (-9), 2) := by decide +kernel
theorem dX12_depthIn_3 : decode cX12_depthIn 3 = .ok (.if_icmp .ne 7, 3) := by decide +kernel
theorem dX12_depthIn_6 : decode cX12_depthIn 6 = .ok (.iconst 0, 1) := by decide +kernel
theorem dX12_depthIn_7 : decode cX12_depthIn 7 = .ok (.goto 23, 3) := by decide +kernel
theorem dX12_depthIn_10 : decode cX12_depthIn 10 = .ok (.aload_n 0, 1) := by decide +kernel
theorem dX12_depthIn_11 : decode cX12_depthIn 11 = .ok (.getfield 32, 3) := by decide +kernel
theorem dX12_depthIn_14 : decode cX12_depthIn 14 = .ok (.iload_n 1, 1) := by decide +kernel
theorem dX12_depthIn_15 : decode cX12_depthIn 15 = .ok (.iaload, 1) := by decide +kernel
theorem dX12_depthIn_16 : decode cX12_depthIn 16 = .ok (.aload_n 0, 1) := by decide +kernel
theorem dX12_depthIn_17 : decode cX12_depthIn 17 = .ok (.iload_n 1, 1) := by decide +kernel
theorem dX12_depthIn_18 : decode cX12_depthIn 18 = .ok (.invokevirtual 173, 3) := by decide +kernel
theorem dX12_depthIn_21 : decode cX12_depthIn 21 = .ok (.ifCond .eq 7, 3) := by decide +kernel
theorem dX12_depthIn_24 : decode cX12_depthIn 24 = .ok (.iconst 1, 1) := by decide +kernel
theorem dX12_depthIn_25 : decode cX12_depthIn 25 = .ok (.goto 4, 3) := by decide +kernel
theorem dX12_depthIn_28 : decode cX12_depthIn 28 = .ok (.iconst 0, 1) := by decide +kernel
theorem dX12_depthIn_29 : decode cX12_depthIn 29 = .ok (.iadd, 1) := by decide +kernel
theorem dX12_depthIn_30 : decode cX12_depthIn 30 = .ok (.ireturn, 1) := by decide +kernel
theorem dX12_mayHold_0 : decode cX12_mayHold 0 = .ok (.iload_n 1, 1) := by decide +kernel
theorem dX12_mayHold_1 : decode cX12_mayHold 1 = .ok (.bipush (-9), 2) := by decide +kernel
theorem dX12_mayHold_3 : decode cX12_mayHold 3 = .ok (.if_icmp .eq 21, 3) := by decide +kernel
theorem dX12_mayHold_6 : decode cX12_mayHold 6 = .ok (.aload_n 0, 1) := by decide +kernel
theorem dX12_mayHold_7 : decode cX12_mayHold 7 = .ok (.iload_n 1, 1) := by decide +kernel
theorem dX12_mayHold_8 : decode cX12_mayHold 8 = .ok (.invokevirtual 177, 3) := by decide +kernel
theorem dX12_mayHold_11 : decode cX12_mayHold 11 = .ok (.ifCond .eq 17, 3) := by decide +kernel
theorem dX12_mayHold_14 : decode cX12_mayHold 14 = .ok (.aload_n 0, 1) := by decide +kernel
theorem dX12_mayHold_15 : decode cX12_mayHold 15 = .ok (.getfield 26, 3) := by decide +kernel
theorem dX12_mayHold_18 : decode cX12_mayHold 18 = .ok (.iload_n 1, 1) := by decide +kernel
theorem dX12_mayHold_19 : decode cX12_mayHold 19 = .ok (.iaload, 1) := by decide +kernel
theorem dX12_mayHold_20 : decode cX12_mayHold 20 = .ok (.iconst 3, 1) := by decide +kernel
theorem dX12_mayHold_21 : decode cX12_mayHold 21 = .ok (.if_icmp .eq 7, 3) := by decide +kernel
theorem dX12_mayHold_24 : decode cX12_mayHold 24 = .ok (.iconst 1, 1) := by decide +kernel
theorem dX12_mayHold_25 : decode cX12_mayHold 25 = .ok (.goto 4, 3) := by decide +kernel
theorem dX12_mayHold_28 : decode cX12_mayHold 28 = .ok (.iconst 0, 1) := by decide +kernel
theorem dX12_mayHold_29 : decode cX12_mayHold 29 = .ok (.ireturn, 1) := by decide +kernel
theorem dX12_makeNode_0 : decode cX12_makeNode 0 = .ok (.aload_n 0, 1) := by decide +kernel
theorem dX12_makeNode_1 : decode cX12_makeNode 1 = .ok (.getfield 26, 3) := by decide +kernel
theorem dX12_makeNode_4 : decode cX12_makeNode 4 = .ok (.aload_n 0, 1) := by decide +kernel
theorem dX12_makeNode_5 : decode cX12_makeNode 5 = .ok (.getfield 170, 3) := by decide +kernel
theorem dX12_makeNode_8 : decode cX12_makeNode 8 = .ok (.iload_n 1, 1) := by decide +kernel
theorem dX12_makeNode_9 : decode cX12_makeNode 9 = .ok (.iastore, 1) := by decide +kernel
theorem dX12_makeNode_10 : decode cX12_makeNode 10 = .ok (.aload_n 0, 1) := by decide +kernel
theorem dX12_makeNode_11 : decode cX12_makeNode 11 = .ok (.getfield 29, 3) := by decide +kernel
theorem dX12_makeNode_14 : decode cX12_makeNode 14 = .ok (.aload_n 0, 1) := by decide +kernel
theorem dX12_makeNode_15 : decode cX12_makeNode 15 = .ok (.getfield 170, 3) := by decide +kernel
theorem dX12_makeNode_18 : decode cX12_makeNode 18 = .ok (.iload_n 2, 1) := by decide +kernel
theorem dX12_makeNode_19 : decode cX12_makeNode 19 = .ok (.iastore, 1) := by decide +kernel
theorem dX12_makeNode_20 : decode cX12_makeNode 20 = .ok (.aload_n 0, 1) := by decide +kernel
theorem dX12_makeNode_21 : decode cX12_makeNode 21 = .ok (.getfield 32, 3) := by decide +kernel
theorem dX12_makeNode_24 : decode cX12_makeNode 24 = .ok (.aload_n 0, 1) := by decide +kernel
theorem dX12_makeNode_25 : decode cX12_makeNode 25 = .ok (.getfield 170, 3) := by decide +kernel
theorem dX12_makeNode_28 : decode cX12_makeNode 28 = .ok (.aload_n 0, 1) := by decide +kernel
theorem dX12_makeNode_29 : decode cX12_makeNode 29 = .ok (.iload_n 2, 1) := by decide +kernel
theorem dX12_makeNode_30 : decode cX12_makeNode 30 = .ok (.invokevirtual 180, 3) := by decide +kernel
theorem dX12_makeNode_33 : decode cX12_makeNode 33 = .ok (.iastore, 1) := by decide +kernel
theorem dX12_makeNode_34 : decode cX12_makeNode 34 = .ok (.aload_n 0, 1) := by decide +kernel
theorem dX12_makeNode_35 : decode cX12_makeNode 35 = .ok (.getfield 35, 3) := by decide +kernel
theorem dX12_makeNode_38 : decode cX12_makeNode 38 = .ok (.aload_n 0, 1) := by decide +kernel
theorem dX12_makeNode_39 : decode cX12_makeNode 39 = .ok (.getfield 170, 3) := by decide +kernel
theorem dX12_makeNode_42 : decode cX12_makeNode 42 = .ok (.iload_n 3, 1) := by decide +kernel
theorem dX12_makeNode_43 : decode cX12_makeNode 43 = .ok (.iastore, 1) := by decide +kernel
theorem dX12_makeNode_44 : decode cX12_makeNode 44 = .ok (.aload_n 0, 1) := by decide +kernel
theorem dX12_makeNode_45 : decode cX12_makeNode 45 = .ok (.getfield 38, 3) := by decide +kernel
theorem dX12_makeNode_48 : decode cX12_makeNode 48 = .ok (.aload_n 0, 1) := by decide +kernel
theorem dX12_makeNode_49 : decode cX12_makeNode 49 = .ok (.getfield 170, 3) := by decide +kernel
theorem dX12_makeNode_52 : decode cX12_makeNode 52 = .ok (.iload 4, 2) := by decide +kernel
theorem dX12_makeNode_54 : decode cX12_makeNode 54 = .ok (.iastore, 1) := by decide +kernel
theorem dX12_makeNode_55 : decode cX12_makeNode 55 = .ok (.iconst 0, 1) := by decide +kernel
theorem dX12_makeNode_56 : decode cX12_makeNode 56 = .ok (.istore 5, 2) := by decide +kernel
theorem dX12_makeNode_58 : decode cX12_makeNode 58 = .ok (.iload 5, 2) := by decide +kernel
theorem dX12_makeNode_60 : decode cX12_makeNode 60 = .ok (.iconst 3, 1) := by decide +kernel
theorem dX12_makeNode_61 : decode cX12_makeNode 61 = .ok (.if_icmp .ge 25, 3) := by decide +kernel
theorem dX12_makeNode_64 : decode cX12_makeNode 64 = .ok (.aload_n 0, 1) := by decide +kernel
theorem dX12_makeNode_65 : decode cX12_makeNode 65 = .ok (.getfield 41, 3) := by decide +kernel
theorem dX12_makeNode_68 : decode cX12_makeNode 68 = .ok (.iconst 3, 1) := by decide +kernel
theorem dX12_makeNode_69 : decode cX12_makeNode 69 = .ok (.aload_n 0, 1) := by decide +kernel
theorem dX12_makeNode_70 : decode cX12_makeNode 70 = .ok (.getfield 170, 3) := by decide +kernel
theorem dX12_makeNode_73 : decode cX12_makeNode 73 = .ok (.imul, 1) := by decide +kernel
theorem dX12_makeNode_74 : decode cX12_makeNode 74 = .ok (.iload 5, 2) := by decide +kernel
theorem dX12_makeNode_76 : decode cX12_makeNode 76 = .ok (.iadd, 1) := by decide +kernel
theorem dX12_makeNode_77 : decode cX12_makeNode 77 = .ok (.bipush (-9), 2) := by decide +kernel
theorem dX12_makeNode_79 : decode cX12_makeNode 79 = .ok (.iastore, 1) := by decide +kernel
theorem dX12_makeNode_80 : decode cX12_makeNode 80 = .ok (.iinc 5 1, 3) := by decide +kernel
theorem dX12_makeNode_83 : decode cX12_makeNode 83 = .ok (.goto (-25), 3) := by decide +kernel
theorem dX12_makeNode_86 : decode cX12_makeNode 86 = .ok (.aload_n 0, 1) := by decide +kernel
theorem dX12_makeNode_87 : decode cX12_makeNode 87 = .ok (.dup, 1) := by decide +kernel
theorem dX12_makeNode_88 : decode cX12_makeNode 88 = .ok (.getfield 170, 3) := by decide +kernel
theorem dX12_makeNode_91 : decode cX12_makeNode 91 = .ok (.iconst 1, 1) := by decide +kernel
theorem dX12_makeNode_92 : decode cX12_makeNode 92 = .ok (.iadd, 1) := by decide +kernel
theorem dX12_makeNode_93 : decode cX12_makeNode 93 = .ok (.putfield 170, 3) := by decide +kernel
theorem dX12_makeNode_96 : decode cX12_makeNode 96 = .ok (.aload_n 0, 1) := by decide +kernel
theorem dX12_makeNode_97 : decode cX12_makeNode 97 = .ok (.invokevirtual 184, 3) := by decide +kernel
theorem dX12_makeNode_100 : decode cX12_makeNode 100 = .ok (.aload_n 0, 1) := by decide +kernel
theorem dX12_makeNode_101 : decode cX12_makeNode 101 = .ok (.getfield 170, 3) := by decide +kernel
theorem dX12_makeNode_104 : decode cX12_makeNode 104 = .ok (.iconst 1, 1) := by decide +kernel
theorem dX12_makeNode_105 : decode cX12_makeNode 105 = .ok (.isub, 1) := by decide +kernel
theorem dX12_makeNode_106 : decode cX12_makeNode 106 = .ok (.ireturn, 1) := by decide +kernel
theorem dX12_loop_0 : decode cX12_loop 0 = .ok (.aload_n 0, 1) := by decide +kernel
theorem dX12_loop_1 : decode cX12_loop 1 = .ok (.iload_n 1, 1) := by decide +kernel
theorem dX12_loop_2 : decode cX12_loop 2 = .ok (.invokevirtual 187, 3) := by decide +kernel
theorem dX12_loop_5 : decode cX12_loop 5 = .ok (.ifCond .eq 54, 3) := by decide +kernel
theorem dX12_loop_8 : decode cX12_loop 8 = .ok (.aload_n 0, 1) := by decide +kernel
theorem dX12_loop_9 : decode cX12_loop 9 = .ok (.iload_n 2, 1) := by decide +kernel
theorem dX12_loop_10 : decode cX12_loop 10 = .ok (.invokevirtual 190, 3) := by decide +kernel
theorem dX12_loop_13 : decode cX12_loop 13 = .ok (.ifCond .eq 46, 3) := by decide +kernel
theorem dX12_loop_16 : decode cX12_loop 16 = .ok (.aload_n 0, 1) := by decide +kernel
theorem dX12_loop_17 : decode cX12_loop 17 = .ok (.iload_n 3, 1) := by decide +kernel
theorem dX12_loop_18 : decode cX12_loop 18 = .ok (.invokevirtual 190, 3) := by decide +kernel
theorem dX12_loop_21 : decode cX12_loop 21 = .ok (.ifCond .eq 38, 3) := by decide +kernel
theorem dX12_loop_24 : decode cX12_loop 24 = .ok (.aload_n 0, 1) := by decide +kernel
theorem dX12_loop_25 : decode cX12_loop 25 = .ok (.iload_n 1, 1) := by decide +kernel
theorem dX12_loop_26 : decode cX12_loop 26 = .ok (.invokevirtual 180, 3) := by decide +kernel
theorem dX12_loop_29 : decode cX12_loop 29 = .ok (.iconst 3, 1) := by decide +kernel
theorem dX12_loop_30 : decode cX12_loop 30 = .ok (.if_icmp .gt 29, 3) := by decide +kernel
theorem dX12_loop_33 : decode cX12_loop 33 = .ok (.aload_n 0, 1) := by decide +kernel
theorem dX12_loop_34 : decode cX12_loop 34 = .ok (.iload_n 2, 1) := by decide +kernel
theorem dX12_loop_35 : decode cX12_loop 35 = .ok (.aload_n 0, 1) := by decide +kernel
theorem dX12_loop_36 : decode cX12_loop 36 = .ok (.iload_n 1, 1) := by decide +kernel
theorem dX12_loop_37 : decode cX12_loop 37 = .ok (.invokevirtual 180, 3) := by decide +kernel
theorem dX12_loop_40 : decode cX12_loop 40 = .ok (.invokevirtual 193, 3) := by decide +kernel
theorem dX12_loop_43 : decode cX12_loop 43 = .ok (.ifCond .eq 16, 3) := by decide +kernel
theorem dX12_loop_46 : decode cX12_loop 46 = .ok (.aload_n 0, 1) := by decide +kernel
theorem dX12_loop_47 : decode cX12_loop 47 = .ok (.iload_n 3, 1) := by decide +kernel
theorem dX12_loop_48 : decode cX12_loop 48 = .ok (.aload_n 0, 1) := by decide +kernel
theorem dX12_loop_49 : decode cX12_loop 49 = .ok (.iload_n 1, 1) := by decide +kernel
theorem dX12_loop_50 : decode cX12_loop 50 = .ok (.invokevirtual 180, 3) := by decide +kernel
theorem dX12_loop_53 : decode cX12_loop 53 = .ok (.invokevirtual 193, 3) := by decide +kernel
theorem dX12_loop_56 : decode cX12_loop 56 = .ok (.ifCond .ne 5, 3) := by decide +kernel
theorem dX12_loop_59 : decode cX12_loop 59 = .ok (.iconst (-1), 1) := by decide +kernel
theorem dX12_loop_60 : decode cX12_loop 60 = .ok (.ireturn, 1) := by decide +kernel
theorem dX12_loop_61 : decode cX12_loop 61 = .ok (.aload_n 0, 1) := by decide +kernel
theorem dX12_loop_62 : decode cX12_loop 62 = .ok (.getfield 170, 3) := by decide +kernel
theorem dX12_loop_65 : decode cX12_loop 65 = .ok (.bipush 40, 2) := by decide +kernel
theorem dX12_loop_67 : decode cX12_loop 67 = .ok (.if_icmp .ne 8, 3) := by decide +kernel
theorem dX12_loop_70 : decode cX12_loop 70 = .ok (.bipush (-2), 2) := by decide +kernel
theorem dX12_loop_72 : decode cX12_loop 72 = .ok (.goto 20, 3) := by decide +kernel
theorem dX12_loop_75 : decode cX12_loop 75 = .ok (.aload_n 0, 1) := by decide +kernel
theorem dX12_loop_76 : decode cX12_loop 76 = .ok (.iload 4, 2) := by decide +kernel
theorem dX12_loop_78 : decode cX12_loop 78 = .ok (.ifCond .eq 7, 3) := by decide +kernel
theorem dX12_loop_81 : decode cX12_loop 81 = .ok (.iconst 1, 1) := by decide +kernel
theorem dX12_loop_82 : decode cX12_loop 82 = .ok (.goto 4, 3) := by decide +kernel
theorem dX12_loop_85 : decode cX12_loop 85 = .ok (.iconst 0, 1) := by decide +kernel
theorem dX12_loop_86 : decode cX12_loop 86 = .ok (.iload_n 1, 1) := by decide +kernel
theorem dX12_loop_87 : decode cX12_loop 87 = .ok (.iload_n 2, 1) := by decide +kernel
theorem dX12_loop_88 : decode cX12_loop 88 = .ok (.iload_n 3, 1) := by decide +kernel
theorem dX12_loop_89 : decode cX12_loop 89 = .ok (.invokevirtual 197, 3) := by decide +kernel
theorem dX12_loop_92 : decode cX12_loop 92 = .ok (.ireturn, 1) := by decide +kernel
theorem dX12_test_0 : decode cX12_test 0 = .ok (.aload_n 0, 1) := by decide +kernel
theorem dX12_test_1 : decode cX12_test 1 = .ok (.iload_n 1, 1) := by decide +kernel
theorem dX12_test_2 : decode cX12_test 2 = .ok (.invokevirtual 187, 3) := by decide +kernel
theorem dX12_test_5 : decode cX12_test 5 = .ok (.ifCond .eq 36, 3) := by decide +kernel
theorem dX12_test_8 : decode cX12_test 8 = .ok (.aload_n 0, 1) := by decide +kernel
theorem dX12_test_9 : decode cX12_test 9 = .ok (.iload_n 2, 1) := by decide +kernel
theorem dX12_test_10 : decode cX12_test 10 = .ok (.invokevirtual 190, 3) := by decide +kernel
theorem dX12_test_13 : decode cX12_test 13 = .ok (.ifCond .eq 28, 3) := by decide +kernel
theorem dX12_test_16 : decode cX12_test 16 = .ok (.iload_n 3, 1) := by decide +kernel
theorem dX12_test_17 : decode cX12_test 17 = .ok (.i2l, 1) := by decide +kernel
theorem dX12_test_18 : decode cX12_test 18 = .ok (.lconst 0, 1) := by decide +kernel
theorem dX12_test_19 : decode cX12_test 19 = .ok (.ldc2_w 168, 3) := by decide +kernel
theorem dX12_test_22 : decode cX12_test 22 = .ok (.invokestatic 154, 3) := by decide +kernel
theorem dX12_test_25 : decode cX12_test 25 = .ok (.ifCond .eq 16, 3) := by decide +kernel
theorem dX12_test_28 : decode cX12_test 28 = .ok (.aload_n 0, 1) := by decide +kernel
theorem dX12_test_29 : decode cX12_test 29 = .ok (.iload_n 2, 1) := by decide +kernel
theorem dX12_test_30 : decode cX12_test 30 = .ok (.aload_n 0, 1) := by decide +kernel
theorem dX12_test_31 : decode cX12_test 31 = .ok (.iload_n 1, 1) := by decide +kernel
theorem dX12_test_32 : decode cX12_test 32 = .ok (.invokevirtual 180, 3) := by decide +kernel
theorem dX12_test_35 : decode cX12_test 35 = .ok (.invokevirtual 193, 3) := by decide +kernel
theorem dX12_test_38 : decode cX12_test 38 = .ok (.ifCond .ne 5, 3) := by decide +kernel
theorem dX12_test_41 : decode cX12_test 41 = .ok (.iconst (-1), 1) := by decide +kernel
theorem dX12_test_42 : decode cX12_test 42 = .ok (.ireturn, 1) := by decide +kernel
theorem dX12_test_43 : decode cX12_test 43 = .ok (.aload_n 0, 1) := by decide +kernel
theorem dX12_test_44 : decode cX12_test 44 = .ok (.getfield 170, 3) := by decide +kernel
theorem dX12_test_47 : decode cX12_test 47 = .ok (.bipush 40, 2) := by decide +kernel
theorem dX12_test_49 : decode cX12_test 49 = .ok (.if_icmp .ne 8, 3) := by decide +kernel
theorem dX12_test_52 : decode cX12_test 52 = .ok (.bipush (-2), 2) := by decide +kernel
theorem dX12_test_54 : decode cX12_test 54 = .ok (.goto 11, 3) := by decide +kernel
theorem dX12_test_57 : decode cX12_test 57 = .ok (.aload_n 0, 1) := by decide +kernel
theorem dX12_test_58 : decode cX12_test 58 = .ok (.iconst 2, 1) := by decide +kernel
theorem dX12_test_59 : decode cX12_test 59 = .ok (.iload_n 1, 1) := by decide +kernel
theorem dX12_test_60 : decode cX12_test 60 = .ok (.iload_n 2, 1) := by decide +kernel
theorem dX12_test_61 : decode cX12_test 61 = .ok (.iload_n 3, 1) := by decide +kernel
theorem dX12_test_62 : decode cX12_test 62 = .ok (.invokevirtual 197, 3) := by decide +kernel
theorem dX12_test_65 : decode cX12_test 65 = .ok (.ireturn, 1) := by decide +kernel
theorem dX12_act_0 : decode cX12_act 0 = .ok (.aload_n 0, 1) := by decide +kernel
theorem dX12_act_1 : decode cX12_act 1 = .ok (.iload_n 1, 1) := by decide +kernel
theorem dX12_act_2 : decode cX12_act 2 = .ok (.invokevirtual 187, 3) := by decide +kernel
theorem dX12_act_5 : decode cX12_act 5 = .ok (.ifCond .eq 15, 3) := by decide +kernel
theorem dX12_act_8 : decode cX12_act 8 = .ok (.iload_n 2, 1) := by decide +kernel
theorem dX12_act_9 : decode cX12_act 9 = .ok (.i2l, 1) := by decide +kernel
theorem dX12_act_10 : decode cX12_act 10 = .ok (.lconst 0, 1) := by decide +kernel
theorem dX12_act_11 : decode cX12_act 11 = .ok (.ldc2_w 152, 3) := by decide +kernel
theorem dX12_act_14 : decode cX12_act 14 = .ok (.invokestatic 154, 3) := by decide +kernel
theorem dX12_act_17 : decode cX12_act 17 = .ok (.ifCond .ne 5, 3) := by decide +kernel
theorem dX12_act_20 : decode cX12_act 20 = .ok (.iconst (-1), 1) := by decide +kernel
theorem dX12_act_21 : decode cX12_act 21 = .ok (.ireturn, 1) := by decide +kernel
theorem dX12_act_22 : decode cX12_act 22 = .ok (.aload_n 0, 1) := by decide +kernel
theorem dX12_act_23 : decode cX12_act 23 = .ok (.getfield 170, 3) := by decide +kernel
theorem dX12_act_26 : decode cX12_act 26 = .ok (.bipush 40, 2) := by decide +kernel
theorem dX12_act_28 : decode cX12_act 28 = .ok (.if_icmp .eq 12, 3) := by decide +kernel
theorem dX12_act_31 : decode cX12_act 31 = .ok (.aload_n 0, 1) := by decide +kernel
theorem dX12_act_32 : decode cX12_act 32 = .ok (.getfield 201, 3) := by decide +kernel
theorem dX12_act_35 : decode cX12_act 35 = .ok (.bipush 12, 2) := by decide +kernel
theorem dX12_act_37 : decode cX12_act 37 = .ok (.if_icmp .ne 6, 3) := by decide +kernel
theorem dX12_act_40 : decode cX12_act 40 = .ok (.bipush (-2), 2) := by decide +kernel
theorem dX12_act_42 : decode cX12_act 42 = .ok (.ireturn, 1) := by decide +kernel
theorem dX12_act_43 : decode cX12_act 43 = .ok (.aload_n 0, 1) := by decide +kernel
theorem dX12_act_44 : decode cX12_act 44 = .ok (.dup, 1) := by decide +kernel
theorem dX12_act_45 : decode cX12_act 45 = .ok (.getfield 201, 3) := by decide +kernel
theorem dX12_act_48 : decode cX12_act 48 = .ok (.iconst 1, 1) := by decide +kernel
theorem dX12_act_49 : decode cX12_act 49 = .ok (.iadd, 1) := by decide +kernel
theorem dX12_act_50 : decode cX12_act 50 = .ok (.putfield 201, 3) := by decide +kernel
theorem dX12_act_53 : decode cX12_act 53 = .ok (.aload_n 0, 1) := by decide +kernel
theorem dX12_act_54 : decode cX12_act 54 = .ok (.iconst 3, 1) := by decide +kernel
theorem dX12_act_55 : decode cX12_act 55 = .ok (.iload_n 1, 1) := by decide +kernel
theorem dX12_act_56 : decode cX12_act 56 = .ok (.iload_n 2, 1) := by decide +kernel
theorem dX12_act_57 : decode cX12_act 57 = .ok (.iload_n 3, 1) := by decide +kernel
theorem dX12_act_58 : decode cX12_act 58 = .ok (.invokevirtual 197, 3) := by decide +kernel
theorem dX12_act_61 : decode cX12_act 61 = .ok (.ireturn, 1) := by decide +kernel
theorem dX12_aim_0 : decode cX12_aim 0 = .ok (.aload_n 0, 1) := by decide +kernel
theorem dX12_aim_1 : decode cX12_aim 1 = .ok (.iload_n 1, 1) := by decide +kernel
theorem dX12_aim_2 : decode cX12_aim 2 = .ok (.invokevirtual 177, 3) := by decide +kernel
theorem dX12_aim_5 : decode cX12_aim 5 = .ok (.ifCond .eq 49, 3) := by decide +kernel
theorem dX12_aim_8 : decode cX12_aim 8 = .ok (.iload_n 2, 1) := by decide +kernel
theorem dX12_aim_9 : decode cX12_aim 9 = .ok (.i2l, 1) := by decide +kernel
theorem dX12_aim_10 : decode cX12_aim 10 = .ok (.lconst 0, 1) := by decide +kernel
theorem dX12_aim_11 : decode cX12_aim 11 = .ok (.ldc2_w 158, 3) := by decide +kernel
theorem dX12_aim_14 : decode cX12_aim 14 = .ok (.invokestatic 154, 3) := by decide +kernel
theorem dX12_aim_17 : decode cX12_aim 17 = .ok (.ifCond .eq 37, 3) := by decide +kernel
theorem dX12_aim_20 : decode cX12_aim 20 = .ok (.iload_n 3, 1) := by decide +kernel
theorem dX12_aim_21 : decode cX12_aim 21 = .ok (.i2l, 1) := by decide +kernel
theorem dX12_aim_22 : decode cX12_aim 22 = .ok (.lconst 0, 1) := by decide +kernel
theorem dX12_aim_23 : decode cX12_aim 23 = .ok (.aload_n 0, 1) := by decide +kernel
theorem dX12_aim_24 : decode cX12_aim 24 = .ok (.getfield 204, 3) := by decide +kernel
theorem dX12_aim_27 : decode cX12_aim 27 = .ok (.iconst 1, 1) := by decide +kernel
theorem dX12_aim_28 : decode cX12_aim 28 = .ok (.isub, 1) := by decide +kernel
theorem dX12_aim_29 : decode cX12_aim 29 = .ok (.i2l, 1) := by decide +kernel
theorem dX12_aim_30 : decode cX12_aim 30 = .ok (.invokestatic 154, 3) := by decide +kernel
theorem dX12_aim_33 : decode cX12_aim 33 = .ok (.ifCond .eq 21, 3) := by decide +kernel
theorem dX12_aim_36 : decode cX12_aim 36 = .ok (.aload_n 0, 1) := by decide +kernel
theorem dX12_aim_37 : decode cX12_aim 37 = .ok (.iload 4, 2) := by decide +kernel
theorem dX12_aim_39 : decode cX12_aim 39 = .ok (.invokevirtual 190, 3) := by decide +kernel
theorem dX12_aim_42 : decode cX12_aim 42 = .ok (.ifCond .eq 12, 3) := by decide +kernel
theorem dX12_aim_45 : decode cX12_aim 45 = .ok (.aload_n 0, 1) := by decide +kernel
theorem dX12_aim_46 : decode cX12_aim 46 = .ok (.iload 5, 2) := by decide +kernel
theorem dX12_aim_48 : decode cX12_aim 48 = .ok (.invokevirtual 190, 3) := by decide +kernel
theorem dX12_aim_51 : decode cX12_aim 51 = .ok (.ifCond .ne 5, 3) := by decide +kernel
theorem dX12_aim_54 : decode cX12_aim 54 = .ok (.iconst (-1), 1) := by decide +kernel
theorem dX12_aim_55 : decode cX12_aim 55 = .ok (.ireturn, 1) := by decide +kernel
theorem dX12_aim_56 : decode cX12_aim 56 = .ok (.aload_n 0, 1) := by decide +kernel
theorem dX12_aim_57 : decode cX12_aim 57 = .ok (.getfield 26, 3) := by decide +kernel
theorem dX12_aim_60 : decode cX12_aim 60 = .ok (.iload_n 1, 1) := by decide +kernel
theorem dX12_aim_61 : decode cX12_aim 61 = .ok (.iaload, 1) := by decide +kernel
theorem dX12_aim_62 : decode cX12_aim 62 = .ok (.iconst 3, 1) := by decide +kernel
theorem dX12_aim_63 : decode cX12_aim 63 = .ok (.if_icmp .eq 9, 3) := by decide +kernel
theorem dX12_aim_66 : decode cX12_aim 66 = .ok (.aload_n 0, 1) := by decide +kernel
theorem dX12_aim_67 : decode cX12_aim 67 = .ok (.iconst 3, 1) := by decide +kernel
theorem dX12_aim_68 : decode cX12_aim 68 = .ok (.invokevirtual 207, 3) := by decide +kernel
theorem dX12_aim_71 : decode cX12_aim 71 = .ok (.ireturn, 1) := by decide +kernel
theorem dX12_aim_72 : decode cX12_aim 72 = .ok (.aload_n 0, 1) := by decide +kernel
theorem dX12_aim_73 : decode cX12_aim 73 = .ok (.iload 4, 2) := by decide +kernel
theorem dX12_aim_75 : decode cX12_aim 75 = .ok (.aload_n 0, 1) := by decide +kernel
theorem dX12_aim_76 : decode cX12_aim 76 = .ok (.getfield 32, 3) := by decide +kernel
theorem dX12_aim_79 : decode cX12_aim 79 = .ok (.iload_n 1, 1) := by decide +kernel
theorem dX12_aim_80 : decode cX12_aim 80 = .ok (.iaload, 1) := by decide +kernel
theorem dX12_aim_81 : decode cX12_aim 81 = .ok (.invokevirtual 193, 3) := by decide +kernel
theorem dX12_aim_84 : decode cX12_aim 84 = .ok (.ifCond .eq 18, 3) := by decide +kernel
theorem dX12_aim_87 : decode cX12_aim 87 = .ok (.aload_n 0, 1) := by decide +kernel
theorem dX12_aim_88 : decode cX12_aim 88 = .ok (.iload 5, 2) := by decide +kernel
theorem dX12_aim_90 : decode cX12_aim 90 = .ok (.aload_n 0, 1) := by decide +kernel
theorem dX12_aim_91 : decode cX12_aim 91 = .ok (.getfield 32, 3) := by decide +kernel
theorem dX12_aim_94 : decode cX12_aim 94 = .ok (.iload_n 1, 1) := by decide +kernel
theorem dX12_aim_95 : decode cX12_aim 95 = .ok (.iaload, 1) := by decide +kernel
theorem dX12_aim_96 : decode cX12_aim 96 = .ok (.invokevirtual 193, 3) := by decide +kernel
theorem dX12_aim_99 : decode cX12_aim 99 = .ok (.ifCond .ne 5, 3) := by decide +kernel
theorem dX12_aim_102 : decode cX12_aim 102 = .ok (.iconst (-1), 1) := by decide +kernel
theorem dX12_aim_103 : decode cX12_aim 103 = .ok (.ireturn, 1) := by decide +kernel
theorem dX12_aim_104 : decode cX12_aim 104 = .ok (.aload_n 0, 1) := by decide +kernel
theorem dX12_aim_105 : decode cX12_aim 105 = .ok (.getfield 41, 3) := by decide +kernel
theorem dX12_aim_108 : decode cX12_aim 108 = .ok (.iconst 3, 1) := by decide +kernel
theorem dX12_aim_109 : decode cX12_aim 109 = .ok (.iload_n 1, 1) := by decide +kernel
theorem dX12_aim_110 : decode cX12_aim 110 = .ok (.imul, 1) := by decide +kernel
theorem dX12_aim_111 : decode cX12_aim 111 = .ok (.iload_n 2, 1) := by decide +kernel
theorem dX12_aim_112 : decode cX12_aim 112 = .ok (.iadd, 1) := by decide +kernel
theorem dX12_aim_113 : decode cX12_aim 113 = .ok (.iload_n 3, 1) := by decide +kernel
theorem dX12_aim_114 : decode cX12_aim 114 = .ok (.iastore, 1) := by decide +kernel
theorem dX12_aim_115 : decode cX12_aim 115 = .ok (.aload_n 0, 1) := by decide +kernel
theorem dX12_aim_116 : decode cX12_aim 116 = .ok (.getfield 44, 3) := by decide +kernel
theorem dX12_aim_119 : decode cX12_aim 119 = .ok (.iconst 3, 1) := by decide +kernel
theorem dX12_aim_120 : decode cX12_aim 120 = .ok (.iload_n 1, 1) := by decide +kernel
theorem dX12_aim_121 : decode cX12_aim 121 = .ok (.imul, 1) := by decide +kernel
theorem dX12_aim_122 : decode cX12_aim 122 = .ok (.iload_n 2, 1) := by decide +kernel
theorem dX12_aim_123 : decode cX12_aim 123 = .ok (.iadd, 1) := by decide +kernel
theorem dX12_aim_124 : decode cX12_aim 124 = .ok (.iload 4, 2) := by decide +kernel
theorem dX12_aim_126 : decode cX12_aim 126 = .ok (.iastore, 1) := by decide +kernel
theorem dX12_aim_127 : decode cX12_aim 127 = .ok (.aload_n 0, 1) := by decide +kernel
theorem dX12_aim_128 : decode cX12_aim 128 = .ok (.getfield 47, 3) := by decide +kernel
theorem dX12_aim_131 : decode cX12_aim 131 = .ok (.iconst 3, 1) := by decide +kernel
theorem dX12_aim_132 : decode cX12_aim 132 = .ok (.iload_n 1, 1) := by decide +kernel
theorem dX12_aim_133 : decode cX12_aim 133 = .ok (.imul, 1) := by decide +kernel
theorem dX12_aim_134 : decode cX12_aim 134 = .ok (.iload_n 2, 1) := by decide +kernel
theorem dX12_aim_135 : decode cX12_aim 135 = .ok (.iadd, 1) := by decide +kernel
theorem dX12_aim_136 : decode cX12_aim 136 = .ok (.iload 5, 2) := by decide +kernel
theorem dX12_aim_138 : decode cX12_aim 138 = .ok (.iastore, 1) := by decide +kernel
theorem dX12_aim_139 : decode cX12_aim 139 = .ok (.iconst 1, 1) := by decide +kernel
theorem dX12_aim_140 : decode cX12_aim 140 = .ok (.ireturn, 1) := by decide +kernel
theorem dX12_node_0 : decode cX12_node 0 = .ok (.aload_n 0, 1) := by decide +kernel
theorem dX12_node_1 : decode cX12_node 1 = .ok (.iload_n 1, 1) := by decide +kernel
theorem dX12_node_2 : decode cX12_node 2 = .ok (.invokevirtual 177, 3) := by decide +kernel
theorem dX12_node_5 : decode cX12_node 5 = .ok (.ifCond .eq 15, 3) := by decide +kernel
theorem dX12_node_8 : decode cX12_node 8 = .ok (.iload_n 2, 1) := by decide +kernel
theorem dX12_node_9 : decode cX12_node 9 = .ok (.i2l, 1) := by decide +kernel
theorem dX12_node_10 : decode cX12_node 10 = .ok (.lconst 0, 1) := by decide +kernel
theorem dX12_node_11 : decode cX12_node 11 = .ok (.ldc2_w 210, 3) := by decide +kernel
theorem dX12_node_14 : decode cX12_node 14 = .ok (.invokestatic 154, 3) := by decide +kernel
theorem dX12_node_17 : decode cX12_node 17 = .ok (.ifCond .ne 5, 3) := by decide +kernel
theorem dX12_node_20 : decode cX12_node 20 = .ok (.iconst (-1), 1) := by decide +kernel
theorem dX12_node_21 : decode cX12_node 21 = .ok (.ireturn, 1) := by decide +kernel
theorem dX12_node_22 : decode cX12_node 22 = .ok (.iload_n 2, 1) := by decide +kernel
theorem dX12_node_23 : decode cX12_node 23 = .ok (.ifCond .ne 12, 3) := by decide +kernel
theorem dX12_node_26 : decode cX12_node 26 = .ok (.aload_n 0, 1) := by decide +kernel
theorem dX12_node_27 : decode cX12_node 27 = .ok (.getfield 26, 3) := by decide +kernel
theorem dX12_node_30 : decode cX12_node 30 = .ok (.iload_n 1, 1) := by decide +kernel
theorem dX12_node_31 : decode cX12_node 31 = .ok (.iaload, 1) := by decide +kernel
theorem dX12_node_32 : decode cX12_node 32 = .ok (.goto 51, 3) := by decide +kernel
theorem dX12_node_35 : decode cX12_node 35 = .ok (.iload_n 2, 1) := by decide +kernel
theorem dX12_node_36 : decode cX12_node 36 = .ok (.iconst 1, 1) := by decide +kernel
theorem dX12_node_37 : decode cX12_node 37 = .ok (.if_icmp .ne 12, 3) := by decide +kernel
theorem dX12_node_40 : decode cX12_node 40 = .ok (.aload_n 0, 1) := by decide +kernel
theorem dX12_node_41 : decode cX12_node 41 = .ok (.getfield 29, 3) := by decide +kernel
theorem dX12_node_44 : decode cX12_node 44 = .ok (.iload_n 1, 1) := by decide +kernel
theorem dX12_node_45 : decode cX12_node 45 = .ok (.iaload, 1) := by decide +kernel
theorem dX12_node_46 : decode cX12_node 46 = .ok (.goto 37, 3) := by decide +kernel
theorem dX12_node_49 : decode cX12_node 49 = .ok (.iload_n 2, 1) := by decide +kernel
theorem dX12_node_50 : decode cX12_node 50 = .ok (.iconst 2, 1) := by decide +kernel
theorem dX12_node_51 : decode cX12_node 51 = .ok (.if_icmp .ne 12, 3) := by decide +kernel
theorem dX12_node_54 : decode cX12_node 54 = .ok (.aload_n 0, 1) := by decide +kernel
theorem dX12_node_55 : decode cX12_node 55 = .ok (.getfield 32, 3) := by decide +kernel
theorem dX12_node_58 : decode cX12_node 58 = .ok (.iload_n 1, 1) := by decide +kernel
theorem dX12_node_59 : decode cX12_node 59 = .ok (.iaload, 1) := by decide +kernel
theorem dX12_node_60 : decode cX12_node 60 = .ok (.goto 23, 3) := by decide +kernel
theorem dX12_node_63 : decode cX12_node 63 = .ok (.iload_n 2, 1) := by decide +kernel
theorem dX12_node_64 : decode cX12_node 64 = .ok (.iconst 3, 1) := by decide +kernel
theorem dX12_node_65 : decode cX12_node 65 = .ok (.if_icmp .ne 12, 3) := by decide +kernel
theorem dX12_node_68 : decode cX12_node 68 = .ok (.aload_n 0, 1) := by decide +kernel
theorem dX12_node_69 : decode cX12_node 69 = .ok (.getfield 35, 3) := by decide +kernel
theorem dX12_node_72 : decode cX12_node 72 = .ok (.iload_n 1, 1) := by decide +kernel
theorem dX12_node_73 : decode cX12_node 73 = .ok (.iaload, 1) := by decide +kernel
theorem dX12_node_74 : decode cX12_node 74 = .ok (.goto 9, 3) := by decide +kernel
theorem dX12_node_77 : decode cX12_node 77 = .ok (.aload_n 0, 1) := by decide +kernel
theorem dX12_node_78 : decode cX12_node 78 = .ok (.getfield 38, 3) := by decide +kernel
theorem dX12_node_81 : decode cX12_node 81 = .ok (.iload_n 1, 1) := by decide +kernel
theorem dX12_node_82 : decode cX12_node 82 = .ok (.iaload, 1) := by decide +kernel
theorem dX12_node_83 : decode cX12_node 83 = .ok (.ireturn, 1) := by decide +kernel
theorem dX12_hold_0 : decode cX12_hold 0 = .ok (.aload_n 0, 1) := by decide +kernel
theorem dX12_hold_1 : decode cX12_hold 1 = .ok (.iload_n 1, 1) := by decide +kernel
theorem dX12_hold_2 : decode cX12_hold 2 = .ok (.invokevirtual 177, 3) := by decide +kernel
theorem dX12_hold_5 : decode cX12_hold 5 = .ok (.ifCond .eq 22, 3) := by decide +kernel
theorem dX12_hold_8 : decode cX12_hold 8 = .ok (.iload_n 2, 1) := by decide +kernel
theorem dX12_hold_9 : decode cX12_hold 9 = .ok (.bipush (-9), 2) := by decide +kernel
theorem dX12_hold_11 : decode cX12_hold 11 = .ok (.if_icmp .eq 11, 3) := by decide +kernel
theorem dX12_hold_14 : decode cX12_hold 14 = .ok (.aload_n 0, 1) := by decide +kernel
theorem dX12_hold_15 : decode cX12_hold 15 = .ok (.iload_n 2, 1) := by decide +kernel
theorem dX12_hold_16 : decode cX12_hold 16 = .ok (.invokevirtual 177, 3) := by decide +kernel
theorem dX12_hold_19 : decode cX12_hold 19 = .ok (.ifCond .eq 8, 3) := by decide +kernel
theorem dX12_hold_22 : decode cX12_hold 22 = .ok (.iload_n 1, 1) := by decide +kernel
theorem dX12_hold_23 : decode cX12_hold 23 = .ok (.iload_n 2, 1) := by decide +kernel
theorem dX12_hold_24 : decode cX12_hold 24 = .ok (.if_icmp .ne 5, 3) := by decide +kernel
theorem dX12_hold_27 : decode cX12_hold 27 = .ok (.iconst (-1), 1) := by decide +kernel
theorem dX12_hold_28 : decode cX12_hold 28 = .ok (.ireturn, 1) := by decide +kernel
theorem dX12_hold_29 : decode cX12_hold 29 = .ok (.aload_n 0, 1) := by decide +kernel
theorem dX12_hold_30 : decode cX12_hold 30 = .ok (.getfield 50, 3) := by decide +kernel
theorem dX12_hold_33 : decode cX12_hold 33 = .ok (.iload_n 1, 1) := by decide +kernel
theorem dX12_hold_34 : decode cX12_hold 34 = .ok (.iload_n 2, 1) := by decide +kernel
theorem dX12_hold_35 : decode cX12_hold 35 = .ok (.bipush (-9), 2) := by decide +kernel
theorem dX12_hold_37 : decode cX12_hold 37 = .ok (.if_icmp .ne 7, 3) := by decide +kernel
theorem dX12_hold_40 : decode cX12_hold 40 = .ok (.iconst 0, 1) := by decide +kernel
theorem dX12_hold_41 : decode cX12_hold 41 = .ok (.goto 4, 3) := by decide +kernel
theorem dX12_hold_44 : decode cX12_hold 44 = .ok (.iconst 1, 1) := by decide +kernel
theorem dX12_hold_45 : decode cX12_hold 45 = .ok (.iastore, 1) := by decide +kernel
theorem dX12_hold_46 : decode cX12_hold 46 = .ok (.aload_n 0, 1) := by decide +kernel
theorem dX12_hold_47 : decode cX12_hold 47 = .ok (.getfield 53, 3) := by decide +kernel
theorem dX12_hold_50 : decode cX12_hold 50 = .ok (.iload_n 1, 1) := by decide +kernel
theorem dX12_hold_51 : decode cX12_hold 51 = .ok (.iload_n 2, 1) := by decide +kernel
theorem dX12_hold_52 : decode cX12_hold 52 = .ok (.iastore, 1) := by decide +kernel
theorem dX12_hold_53 : decode cX12_hold 53 = .ok (.iconst 1, 1) := by decide +kernel
theorem dX12_hold_54 : decode cX12_hold 54 = .ok (.ireturn, 1) := by decide +kernel
theorem dX12_note_0 : decode cX12_note 0 = .ok (.aload_n 0, 1) := by decide +kernel
theorem dX12_note_1 : decode cX12_note 1 = .ok (.iload_n 1, 1) := by decide +kernel
theorem dX12_note_2 : decode cX12_note 2 = .ok (.invokevirtual 177, 3) := by decide +kernel
theorem dX12_note_5 : decode cX12_note 5 = .ok (.ifCond .eq 9, 3) := by decide +kernel
theorem dX12_note_8 : decode cX12_note 8 = .ok (.iload_n 2, 1) := by decide +kernel
theorem dX12_note_9 : decode cX12_note 9 = .ok (.bipush 12, 2) := by decide +kernel
theorem dX12_note_11 : decode cX12_note 11 = .ok (.if_icmp .le 5, 3) := by decide +kernel
theorem dX12_note_14 : decode cX12_note 14 = .ok (.iconst (-1), 1) := by decide +kernel
theorem dX12_note_15 : decode cX12_note 15 = .ok (.ireturn, 1) := by decide +kernel
theorem dX12_note_16 : decode cX12_note 16 = .ok (.iload_n 2, 1) := by decide +kernel
theorem dX12_note_17 : decode cX12_note 17 = .ok (.ifCond .ge 9, 3) := by decide +kernel
theorem dX12_note_20 : decode cX12_note 20 = .ok (.aload_n 0, 1) := by decide +kernel
theorem dX12_note_21 : decode cX12_note 21 = .ok (.iconst 5, 1) := by decide +kernel
theorem dX12_note_22 : decode cX12_note 22 = .ok (.invokevirtual 207, 3) := by decide +kernel
theorem dX12_note_25 : decode cX12_note 25 = .ok (.ireturn, 1) := by decide +kernel
theorem dX12_note_26 : decode cX12_note 26 = .ok (.aload_n 0, 1) := by decide +kernel
theorem dX12_note_27 : decode cX12_note 27 = .ok (.getfield 50, 3) := by decide +kernel
theorem dX12_note_30 : decode cX12_note 30 = .ok (.iload_n 1, 1) := by decide +kernel
theorem dX12_note_31 : decode cX12_note 31 = .ok (.iconst 2, 1) := by decide +kernel
theorem dX12_note_32 : decode cX12_note 32 = .ok (.iastore, 1) := by decide +kernel
theorem dX12_note_33 : decode cX12_note 33 = .ok (.aload_n 0, 1) := by decide +kernel
theorem dX12_note_34 : decode cX12_note 34 = .ok (.getfield 56, 3) := by decide +kernel
theorem dX12_note_37 : decode cX12_note 37 = .ok (.iload_n 1, 1) := by decide +kernel
theorem dX12_note_38 : decode cX12_note 38 = .ok (.iload_n 2, 1) := by decide +kernel
theorem dX12_note_39 : decode cX12_note 39 = .ok (.iastore, 1) := by decide +kernel
theorem dX12_note_40 : decode cX12_note 40 = .ok (.iconst 0, 1) := by decide +kernel
theorem dX12_note_41 : decode cX12_note 41 = .ok (.istore_n 3, 1) := by decide +kernel
theorem dX12_note_42 : decode cX12_note 42 = .ok (.iload_n 3, 1) := by decide +kernel
theorem dX12_note_43 : decode cX12_note 43 = .ok (.bipush 12, 2) := by decide +kernel
theorem dX12_note_45 : decode cX12_note 45 = .ok (.if_icmp .ge 21, 3) := by decide +kernel
theorem dX12_note_48 : decode cX12_note 48 = .ok (.aload_n 0, 1) := by decide +kernel
theorem dX12_note_49 : decode cX12_note 49 = .ok (.getfield 59, 3) := by decide +kernel
theorem dX12_note_52 : decode cX12_note 52 = .ok (.bipush 12, 2) := by decide +kernel
theorem dX12_note_54 : decode cX12_note 54 = .ok (.iload_n 1, 1) := by decide +kernel
theorem dX12_note_55 : decode cX12_note 55 = .ok (.imul, 1) := by decide +kernel
theorem dX12_note_56 : decode cX12_note 56 = .ok (.iload_n 3, 1) := by decide +kernel
theorem dX12_note_57 : decode cX12_note 57 = .ok (.iadd, 1) := by decide +kernel
theorem dX12_note_58 : decode cX12_note 58 = .ok (.iconst 0, 1) := by decide +kernel
theorem dX12_note_59 : decode cX12_note 59 = .ok (.bastore, 1) := by decide +kernel
theorem dX12_note_60 : decode cX12_note 60 = .ok (.iinc 3 1, 3) := by decide +kernel
theorem dX12_note_63 : decode cX12_note 63 = .ok (.goto (-21), 3) := by decide +kernel
theorem dX12_note_66 : decode cX12_note 66 = .ok (.iload_n 2, 1) := by decide +kernel
theorem dX12_note_67 : decode cX12_note 67 = .ok (.ireturn, 1) := by decide +kernel
theorem dX12_held_0 : decode cX12_held 0 = .ok (.aload_n 0, 1) := by decide +kernel
theorem dX12_held_1 : decode cX12_held 1 = .ok (.iload_n 1, 1) := by decide +kernel
theorem dX12_held_2 : decode cX12_held 2 = .ok (.invokevirtual 177, 3) := by decide +kernel
theorem dX12_held_5 : decode cX12_held 5 = .ok (.ifCond .eq 15, 3) := by decide +kernel
theorem dX12_held_8 : decode cX12_held 8 = .ok (.iload_n 2, 1) := by decide +kernel
theorem dX12_held_9 : decode cX12_held 9 = .ok (.i2l, 1) := by decide +kernel
theorem dX12_held_10 : decode cX12_held 10 = .ok (.lconst 0, 1) := by decide +kernel
theorem dX12_held_11 : decode cX12_held 11 = .ok (.ldc2_w 212, 3) := by decide +kernel
theorem dX12_held_14 : decode cX12_held 14 = .ok (.invokestatic 154, 3) := by decide +kernel
theorem dX12_held_17 : decode cX12_held 17 = .ok (.ifCond .ne 5, 3) := by decide +kernel
theorem dX12_held_20 : decode cX12_held 20 = .ok (.iconst (-1), 1) := by decide +kernel
theorem dX12_held_21 : decode cX12_held 21 = .ok (.ireturn, 1) := by decide +kernel
theorem dX12_held_22 : decode cX12_held 22 = .ok (.aload_n 0, 1) := by decide +kernel
theorem dX12_held_23 : decode cX12_held 23 = .ok (.getfield 50, 3) := by decide +kernel
theorem dX12_held_26 : decode cX12_held 26 = .ok (.iload_n 1, 1) := by decide +kernel
theorem dX12_held_27 : decode cX12_held 27 = .ok (.iaload, 1) := by decide +kernel
theorem dX12_held_28 : decode cX12_held 28 = .ok (.ifCond .ne 9, 3) := by decide +kernel
theorem dX12_held_31 : decode cX12_held 31 = .ok (.aload_n 0, 1) := by decide +kernel
theorem dX12_held_32 : decode cX12_held 32 = .ok (.iconst 1, 1) := by decide +kernel
theorem dX12_held_33 : decode cX12_held 33 = .ok (.invokevirtual 207, 3) := by decide +kernel
theorem dX12_held_36 : decode cX12_held 36 = .ok (.ireturn, 1) := by decide +kernel
theorem dX12_held_37 : decode cX12_held 37 = .ok (.aload_n 0, 1) := by decide +kernel
theorem dX12_held_38 : decode cX12_held 38 = .ok (.getfield 50, 3) := by decide +kernel
theorem dX12_held_41 : decode cX12_held 41 = .ok (.iload_n 1, 1) := by decide +kernel
theorem dX12_held_42 : decode cX12_held 42 = .ok (.iaload, 1) := by decide +kernel
theorem dX12_held_43 : decode cX12_held 43 = .ok (.iconst 2, 1) := by decide +kernel
theorem dX12_held_44 : decode cX12_held 44 = .ok (.if_icmp .ne 9, 3) := by decide +kernel
theorem dX12_held_47 : decode cX12_held 47 = .ok (.aload_n 0, 1) := by decide +kernel
theorem dX12_held_48 : decode cX12_held 48 = .ok (.iconst 3, 1) := by decide +kernel
theorem dX12_held_49 : decode cX12_held 49 = .ok (.invokevirtual 207, 3) := by decide +kernel
theorem dX12_held_52 : decode cX12_held 52 = .ok (.ireturn, 1) := by decide +kernel
theorem dX12_held_53 : decode cX12_held 53 = .ok (.aload_n 0, 1) := by decide +kernel
theorem dX12_held_54 : decode cX12_held 54 = .ok (.getfield 26, 3) := by decide +kernel
theorem dX12_held_57 : decode cX12_held 57 = .ok (.aload_n 0, 1) := by decide +kernel
theorem dX12_held_58 : decode cX12_held 58 = .ok (.getfield 53, 3) := by decide +kernel
theorem dX12_held_61 : decode cX12_held 61 = .ok (.iload_n 1, 1) := by decide +kernel
theorem dX12_held_62 : decode cX12_held 62 = .ok (.iaload, 1) := by decide +kernel
theorem dX12_held_63 : decode cX12_held 63 = .ok (.iaload, 1) := by decide +kernel
theorem dX12_held_64 : decode cX12_held 64 = .ok (.istore_n 3, 1) := by decide +kernel
theorem dX12_held_65 : decode cX12_held 65 = .ok (.iload_n 3, 1) := by decide +kernel
theorem dX12_held_66 : decode cX12_held 66 = .ok (.iload_n 2, 1) := by decide +kernel
theorem dX12_held_67 : decode cX12_held 67 = .ok (.if_icmp .eq 12, 3) := by decide +kernel
theorem dX12_held_70 : decode cX12_held 70 = .ok (.iload_n 2, 1) := by decide +kernel
theorem dX12_held_71 : decode cX12_held 71 = .ok (.ifCond .ne 17, 3) := by decide +kernel
theorem dX12_held_74 : decode cX12_held 74 = .ok (.iload_n 3, 1) := by decide +kernel
theorem dX12_held_75 : decode cX12_held 75 = .ok (.iconst 1, 1) := by decide +kernel
theorem dX12_held_76 : decode cX12_held 76 = .ok (.if_icmp .ne 12, 3) := by decide +kernel
theorem dX12_held_79 : decode cX12_held 79 = .ok (.aload_n 0, 1) := by decide +kernel
theorem dX12_held_80 : decode cX12_held 80 = .ok (.getfield 53, 3) := by decide +kernel
theorem dX12_held_83 : decode cX12_held 83 = .ok (.iload_n 1, 1) := by decide +kernel
theorem dX12_held_84 : decode cX12_held 84 = .ok (.iaload, 1) := by decide +kernel
theorem dX12_held_85 : decode cX12_held 85 = .ok (.goto 8, 3) := by decide +kernel
theorem dX12_held_88 : decode cX12_held 88 = .ok (.aload_n 0, 1) := by decide +kernel
theorem dX12_held_89 : decode cX12_held 89 = .ok (.iconst 3, 1) := by decide +kernel
theorem dX12_held_90 : decode cX12_held 90 = .ok (.invokevirtual 207, 3) := by decide +kernel
theorem dX12_held_93 : decode cX12_held 93 = .ok (.ireturn, 1) := by decide +kernel
theorem dX12_noted_0 : decode cX12_noted 0 = .ok (.aload_n 0, 1) := by decide +kernel
theorem dX12_noted_1 : decode cX12_noted 1 = .ok (.iload_n 1, 1) := by decide +kernel
theorem dX12_noted_2 : decode cX12_noted 2 = .ok (.invokevirtual 177, 3) := by decide +kernel
theorem dX12_noted_5 : decode cX12_noted 5 = .ok (.ifCond .ne 5, 3) := by decide +kernel
theorem dX12_noted_8 : decode cX12_noted 8 = .ok (.iconst (-1), 1) := by decide +kernel
theorem dX12_noted_9 : decode cX12_noted 9 = .ok (.ireturn, 1) := by decide +kernel
theorem dX12_noted_10 : decode cX12_noted 10 = .ok (.aload_n 0, 1) := by decide +kernel
theorem dX12_noted_11 : decode cX12_noted 11 = .ok (.getfield 50, 3) := by decide +kernel
theorem dX12_noted_14 : decode cX12_noted 14 = .ok (.iload_n 1, 1) := by decide +kernel
theorem dX12_noted_15 : decode cX12_noted 15 = .ok (.iaload, 1) := by decide +kernel
theorem dX12_noted_16 : decode cX12_noted 16 = .ok (.iconst 2, 1) := by decide +kernel
theorem dX12_noted_17 : decode cX12_noted 17 = .ok (.if_icmp .eq 22, 3) := by decide +kernel
theorem dX12_noted_20 : decode cX12_noted 20 = .ok (.aload_n 0, 1) := by decide +kernel
theorem dX12_noted_21 : decode cX12_noted 21 = .ok (.aload_n 0, 1) := by decide +kernel
theorem dX12_noted_22 : decode cX12_noted 22 = .ok (.getfield 50, 3) := by decide +kernel
theorem dX12_noted_25 : decode cX12_noted 25 = .ok (.iload_n 1, 1) := by decide +kernel
theorem dX12_noted_26 : decode cX12_noted 26 = .ok (.iaload, 1) := by decide +kernel
theorem dX12_noted_27 : decode cX12_noted 27 = .ok (.ifCond .ne 7, 3) := by decide +kernel
theorem dX12_noted_30 : decode cX12_noted 30 = .ok (.iconst 1, 1) := by decide +kernel
theorem dX12_noted_31 : decode cX12_noted 31 = .ok (.goto 4, 3) := by decide +kernel
theorem dX12_noted_34 : decode cX12_noted 34 = .ok (.iconst 3, 1) := by decide +kernel
theorem dX12_noted_35 : decode cX12_noted 35 = .ok (.invokevirtual 207, 3) := by decide +kernel
theorem dX12_noted_38 : decode cX12_noted 38 = .ok (.ireturn, 1) := by decide +kernel
theorem dX12_noted_39 : decode cX12_noted 39 = .ok (.iload_n 2, 1) := by decide +kernel
theorem dX12_noted_40 : decode cX12_noted 40 = .ok (.i2l, 1) := by decide +kernel
theorem dX12_noted_41 : decode cX12_noted 41 = .ok (.lconst 0, 1) := by decide +kernel
theorem dX12_noted_42 : decode cX12_noted 42 = .ok (.aload_n 0, 1) := by decide +kernel
theorem dX12_noted_43 : decode cX12_noted 43 = .ok (.getfield 56, 3) := by decide +kernel
theorem dX12_noted_46 : decode cX12_noted 46 = .ok (.iload_n 1, 1) := by decide +kernel
theorem dX12_noted_47 : decode cX12_noted 47 = .ok (.iaload, 1) := by decide +kernel
theorem dX12_noted_48 : decode cX12_noted 48 = .ok (.iconst 1, 1) := by decide +kernel
theorem dX12_noted_49 : decode cX12_noted 49 = .ok (.isub, 1) := by decide +kernel
theorem dX12_noted_50 : decode cX12_noted 50 = .ok (.i2l, 1) := by decide +kernel
theorem dX12_noted_51 : decode cX12_noted 51 = .ok (.invokestatic 154, 3) := by decide +kernel
theorem dX12_noted_54 : decode cX12_noted 54 = .ok (.ifCond .ne 9, 3) := by decide +kernel
theorem dX12_noted_57 : decode cX12_noted 57 = .ok (.aload_n 0, 1) := by decide +kernel
theorem dX12_noted_58 : decode cX12_noted 58 = .ok (.iconst 2, 1) := by decide +kernel
theorem dX12_noted_59 : decode cX12_noted 59 = .ok (.invokevirtual 207, 3) := by decide +kernel
theorem dX12_noted_62 : decode cX12_noted 62 = .ok (.ireturn, 1) := by decide +kernel
theorem dX12_noted_63 : decode cX12_noted 63 = .ok (.aload_n 0, 1) := by decide +kernel
theorem dX12_noted_64 : decode cX12_noted 64 = .ok (.getfield 59, 3) := by decide +kernel
theorem dX12_noted_67 : decode cX12_noted 67 = .ok (.bipush 12, 2) := by decide +kernel
theorem dX12_noted_69 : decode cX12_noted 69 = .ok (.iload_n 1, 1) := by decide +kernel
theorem dX12_noted_70 : decode cX12_noted 70 = .ok (.imul, 1) := by decide +kernel
theorem dX12_noted_71 : decode cX12_noted 71 = .ok (.iload_n 2, 1) := by decide +kernel
theorem dX12_noted_72 : decode cX12_noted 72 = .ok (.iadd, 1) := by decide +kernel
theorem dX12_noted_73 : decode cX12_noted 73 = .ok (.baload, 1) := by decide +kernel
theorem dX12_noted_74 : decode cX12_noted 74 = .ok (.istore 4, 2) := by decide +kernel
theorem dX12_noted_76 : decode cX12_noted 76 = .ok (.aload_n 0, 1) := by decide +kernel
theorem dX12_noted_77 : decode cX12_noted 77 = .ok (.getfield 59, 3) := by decide +kernel
theorem dX12_noted_80 : decode cX12_noted 80 = .ok (.bipush 12, 2) := by decide +kernel
theorem dX12_noted_82 : decode cX12_noted 82 = .ok (.iload_n 1, 1) := by decide +kernel
theorem dX12_noted_83 : decode cX12_noted 83 = .ok (.imul, 1) := by decide +kernel
theorem dX12_noted_84 : decode cX12_noted 84 = .ok (.iload_n 2, 1) := by decide +kernel
theorem dX12_noted_85 : decode cX12_noted 85 = .ok (.iadd, 1) := by decide +kernel
theorem dX12_noted_86 : decode cX12_noted 86 = .ok (.iload_n 3, 1) := by decide +kernel
theorem dX12_noted_87 : decode cX12_noted 87 = .ok (.i2b, 1) := by decide +kernel
theorem dX12_noted_88 : decode cX12_noted 88 = .ok (.bastore, 1) := by decide +kernel
theorem dX12_noted_89 : decode cX12_noted 89 = .ok (.sipush 1000, 3) := by decide +kernel
theorem dX12_noted_92 : decode cX12_noted 92 = .ok (.iload 4, 2) := by decide +kernel
theorem dX12_noted_94 : decode cX12_noted 94 = .ok (.iadd, 1) := by decide +kernel
theorem dX12_noted_95 : decode cX12_noted 95 = .ok (.ireturn, 1) := by decide +kernel
theorem dX12_copy_0 : decode cX12_copy 0 = .ok (.aload_n 0, 1) := by decide +kernel
theorem dX12_copy_1 : decode cX12_copy 1 = .ok (.iload_n 1, 1) := by decide +kernel
theorem dX12_copy_2 : decode cX12_copy 2 = .ok (.invokevirtual 177, 3) := by decide +kernel
theorem dX12_copy_5 : decode cX12_copy 5 = .ok (.ifCond .eq 11, 3) := by decide +kernel
theorem dX12_copy_8 : decode cX12_copy 8 = .ok (.aload_n 0, 1) := by decide +kernel
theorem dX12_copy_9 : decode cX12_copy 9 = .ok (.iload_n 3, 1) := by decide +kernel
theorem dX12_copy_10 : decode cX12_copy 10 = .ok (.invokevirtual 177, 3) := by decide +kernel
theorem dX12_copy_13 : decode cX12_copy 13 = .ok (.ifCond .ne 5, 3) := by decide +kernel
theorem dX12_copy_16 : decode cX12_copy 16 = .ok (.iconst (-1), 1) := by decide +kernel
theorem dX12_copy_17 : decode cX12_copy 17 = .ok (.ireturn, 1) := by decide +kernel
theorem dX12_copy_18 : decode cX12_copy 18 = .ok (.aload_n 0, 1) := by decide +kernel
theorem dX12_copy_19 : decode cX12_copy 19 = .ok (.getfield 50, 3) := by decide +kernel
theorem dX12_copy_22 : decode cX12_copy 22 = .ok (.iload_n 1, 1) := by decide +kernel
theorem dX12_copy_23 : decode cX12_copy 23 = .ok (.iaload, 1) := by decide +kernel
theorem dX12_copy_24 : decode cX12_copy 24 = .ok (.iconst 1, 1) := by decide +kernel
theorem dX12_copy_25 : decode cX12_copy 25 = .ok (.if_icmp .eq 13, 3) := by decide +kernel
theorem dX12_copy_28 : decode cX12_copy 28 = .ok (.aload_n 0, 1) := by decide +kernel
theorem dX12_copy_29 : decode cX12_copy 29 = .ok (.getfield 50, 3) := by decide +kernel
theorem dX12_copy_32 : decode cX12_copy 32 = .ok (.iload_n 3, 1) := by decide +kernel
theorem dX12_copy_33 : decode cX12_copy 33 = .ok (.iaload, 1) := by decide +kernel
theorem dX12_copy_34 : decode cX12_copy 34 = .ok (.iconst 1, 1) := by decide +kernel
theorem dX12_copy_35 : decode cX12_copy 35 = .ok (.if_icmp .ne 9, 3) := by decide +kernel
theorem dX12_copy_38 : decode cX12_copy 38 = .ok (.aload_n 0, 1) := by decide +kernel
theorem dX12_copy_39 : decode cX12_copy 39 = .ok (.iconst 3, 1) := by decide +kernel
theorem dX12_copy_40 : decode cX12_copy 40 = .ok (.invokevirtual 207, 3) := by decide +kernel
theorem dX12_copy_43 : decode cX12_copy 43 = .ok (.ireturn, 1) := by decide +kernel
theorem dX12_copy_44 : decode cX12_copy 44 = .ok (.aload_n 0, 1) := by decide +kernel
theorem dX12_copy_45 : decode cX12_copy 45 = .ok (.getfield 50, 3) := by decide +kernel
theorem dX12_copy_48 : decode cX12_copy 48 = .ok (.iload_n 1, 1) := by decide +kernel
theorem dX12_copy_49 : decode cX12_copy 49 = .ok (.iaload, 1) := by decide +kernel
theorem dX12_copy_50 : decode cX12_copy 50 = .ok (.ifCond .eq 12, 3) := by decide +kernel
theorem dX12_copy_53 : decode cX12_copy 53 = .ok (.aload_n 0, 1) := by decide +kernel
theorem dX12_copy_54 : decode cX12_copy 54 = .ok (.getfield 50, 3) := by decide +kernel
theorem dX12_copy_57 : decode cX12_copy 57 = .ok (.iload_n 3, 1) := by decide +kernel
theorem dX12_copy_58 : decode cX12_copy 58 = .ok (.iaload, 1) := by decide +kernel
theorem dX12_copy_59 : decode cX12_copy 59 = .ok (.ifCond .ne 9, 3) := by decide +kernel
theorem dX12_copy_62 : decode cX12_copy 62 = .ok (.aload_n 0, 1) := by decide +kernel
theorem dX12_copy_63 : decode cX12_copy 63 = .ok (.iconst 1, 1) := by decide +kernel
theorem dX12_copy_64 : decode cX12_copy 64 = .ok (.invokevirtual 207, 3) := by decide +kernel
theorem dX12_copy_67 : decode cX12_copy 67 = .ok (.ireturn, 1) := by decide +kernel
theorem dX12_copy_68 : decode cX12_copy 68 = .ok (.iload_n 2, 1) := by decide +kernel
theorem dX12_copy_69 : decode cX12_copy 69 = .ok (.ifCond .lt 48, 3) := by decide +kernel
theorem dX12_copy_72 : decode cX12_copy 72 = .ok (.iload 4, 2) := by decide +kernel
theorem dX12_copy_74 : decode cX12_copy 74 = .ok (.ifCond .lt 43, 3) := by decide +kernel
theorem dX12_copy_77 : decode cX12_copy 77 = .ok (.iload 5, 2) := by decide +kernel
theorem dX12_copy_79 : decode cX12_copy 79 = .ok (.ifCond .lt 38, 3) := by decide +kernel
theorem dX12_copy_82 : decode cX12_copy 82 = .ok (.iload_n 2, 1) := by decide +kernel
theorem dX12_copy_83 : decode cX12_copy 83 = .ok (.i2l, 1) := by decide +kernel
theorem dX12_copy_84 : decode cX12_copy 84 = .ok (.iload 5, 2) := by decide +kernel
theorem dX12_copy_86 : decode cX12_copy 86 = .ok (.i2l, 1) := by decide +kernel
theorem dX12_copy_87 : decode cX12_copy 87 = .ok (.ladd, 1) := by decide +kernel
theorem dX12_copy_88 : decode cX12_copy 88 = .ok (.aload_n 0, 1) := by decide +kernel
theorem dX12_copy_89 : decode cX12_copy 89 = .ok (.getfield 56, 3) := by decide +kernel
theorem dX12_copy_92 : decode cX12_copy 92 = .ok (.iload_n 1, 1) := by decide +kernel
theorem dX12_copy_93 : decode cX12_copy 93 = .ok (.iaload, 1) := by decide +kernel
theorem dX12_copy_94 : decode cX12_copy 94 = .ok (.i2l, 1) := by decide +kernel
theorem dX12_copy_95 : decode cX12_copy 95 = .ok (.lcmp, 1) := by decide +kernel
theorem dX12_copy_96 : decode cX12_copy 96 = .ok (.ifCond .gt 21, 3) := by decide +kernel
theorem dX12_copy_99 : decode cX12_copy 99 = .ok (.iload 4, 2) := by decide +kernel
theorem dX12_copy_101 : decode cX12_copy 101 = .ok (.i2l, 1) := by decide +kernel
theorem dX12_copy_102 : decode cX12_copy 102 = .ok (.iload 5, 2) := by decide +kernel
theorem dX12_copy_104 : decode cX12_copy 104 = .ok (.i2l, 1) := by decide +kernel
theorem dX12_copy_105 : decode cX12_copy 105 = .ok (.ladd, 1) := by decide +kernel
theorem dX12_copy_106 : decode cX12_copy 106 = .ok (.aload_n 0, 1) := by decide +kernel
theorem dX12_copy_107 : decode cX12_copy 107 = .ok (.getfield 56, 3) := by decide +kernel
theorem dX12_copy_110 : decode cX12_copy 110 = .ok (.iload_n 3, 1) := by decide +kernel
theorem dX12_copy_111 : decode cX12_copy 111 = .ok (.iaload, 1) := by decide +kernel
theorem dX12_copy_112 : decode cX12_copy 112 = .ok (.i2l, 1) := by decide +kernel
theorem dX12_copy_113 : decode cX12_copy 113 = .ok (.lcmp, 1) := by decide +kernel
theorem dX12_copy_114 : decode cX12_copy 114 = .ok (.ifCond .le 9, 3) := by decide +kernel
theorem dX12_copy_117 : decode cX12_copy 117 = .ok (.aload_n 0, 1) := by decide +kernel
theorem dX12_copy_118 : decode cX12_copy 118 = .ok (.iconst 2, 1) := by decide +kernel
theorem dX12_copy_119 : decode cX12_copy 119 = .ok (.invokevirtual 207, 3) := by decide +kernel
theorem dX12_copy_122 : decode cX12_copy 122 = .ok (.ireturn, 1) := by decide +kernel
theorem dX12_copy_123 : decode cX12_copy 123 = .ok (.iconst 0, 1) := by decide +kernel
theorem dX12_copy_124 : decode cX12_copy 124 = .ok (.istore 6, 2) := by decide +kernel
theorem dX12_copy_126 : decode cX12_copy 126 = .ok (.iload 6, 2) := by decide +kernel
theorem dX12_copy_128 : decode cX12_copy 128 = .ok (.iload 5, 2) := by decide +kernel
theorem dX12_copy_130 : decode cX12_copy 130 = .ok (.if_icmp .ge 30, 3) := by decide +kernel
theorem dX12_copy_133 : decode cX12_copy 133 = .ok (.aload_n 0, 1) := by decide +kernel
theorem dX12_copy_134 : decode cX12_copy 134 = .ok (.getfield 63, 3) := by decide +kernel
theorem dX12_copy_137 : decode cX12_copy 137 = .ok (.iload 6, 2) := by decide +kernel
theorem dX12_copy_139 : decode cX12_copy 139 = .ok (.aload_n 0, 1) := by decide +kernel
theorem dX12_copy_140 : decode cX12_copy 140 = .ok (.getfield 59, 3) := by decide +kernel
theorem dX12_copy_143 : decode cX12_copy 143 = .ok (.bipush 12, 2) := by decide +kernel
theorem dX12_copy_145 : decode cX12_copy 145 = .ok (.iload_n 1, 1) := by decide +kernel
theorem dX12_copy_146 : decode cX12_copy 146 = .ok (.imul, 1) := by decide +kernel
theorem dX12_copy_147 : decode cX12_copy 147 = .ok (.iload_n 2, 1) := by decide +kernel
theorem dX12_copy_148 : decode cX12_copy 148 = .ok (.iadd, 1) := by decide +kernel
theorem dX12_copy_149 : decode cX12_copy 149 = .ok (.iload 6, 2) := by decide +kernel
theorem dX12_copy_151 : decode cX12_copy 151 = .ok (.iadd, 1) := by decide +kernel
theorem dX12_copy_152 : decode cX12_copy 152 = .ok (.baload, 1) := by decide +kernel
theorem dX12_copy_153 : decode cX12_copy 153 = .ok (.bastore, 1) := by decide +kernel
theorem dX12_copy_154 : decode cX12_copy 154 = .ok (.iinc 6 1, 3) := by decide +kernel
theorem dX12_copy_157 : decode cX12_copy 157 = .ok (.goto (-31), 3) := by decide +kernel
theorem dX12_copy_160 : decode cX12_copy 160 = .ok (.iconst 0, 1) := by decide +kernel
theorem dX12_copy_161 : decode cX12_copy 161 = .ok (.istore 6, 2) := by decide +kernel
theorem dX12_copy_163 : decode cX12_copy 163 = .ok (.iload 6, 2) := by decide +kernel
theorem dX12_copy_165 : decode cX12_copy 165 = .ok (.iload 5, 2) := by decide +kernel
theorem dX12_copy_167 : decode cX12_copy 167 = .ok (.if_icmp .ge 31, 3) := by decide +kernel
theorem dX12_copy_170 : decode cX12_copy 170 = .ok (.aload_n 0, 1) := by decide +kernel
theorem dX12_copy_171 : decode cX12_copy 171 = .ok (.getfield 59, 3) := by decide +kernel
theorem dX12_copy_174 : decode cX12_copy 174 = .ok (.bipush 12, 2) := by decide +kernel
theorem dX12_copy_176 : decode cX12_copy 176 = .ok (.iload_n 3, 1) := by decide +kernel
theorem dX12_copy_177 : decode cX12_copy 177 = .ok (.imul, 1) := by decide +kernel
theorem dX12_copy_178 : decode cX12_copy 178 = .ok (.iload 4, 2) := by decide +kernel
theorem dX12_copy_180 : decode cX12_copy 180 = .ok (.iadd, 1) := by decide +kernel
theorem dX12_copy_181 : decode cX12_copy 181 = .ok (.iload 6, 2) := by decide +kernel
theorem dX12_copy_183 : decode cX12_copy 183 = .ok (.iadd, 1) := by decide +kernel
theorem dX12_copy_184 : decode cX12_copy 184 = .ok (.aload_n 0, 1) := by decide +kernel
theorem dX12_copy_185 : decode cX12_copy 185 = .ok (.getfield 63, 3) := by decide +kernel
theorem dX12_copy_188 : decode cX12_copy 188 = .ok (.iload 6, 2) := by decide +kernel
theorem dX12_copy_190 : decode cX12_copy 190 = .ok (.baload, 1) := by decide +kernel
theorem dX12_copy_191 : decode cX12_copy 191 = .ok (.bastore, 1) := by decide +kernel
theorem dX12_copy_192 : decode cX12_copy 192 = .ok (.iinc 6 1, 3) := by decide +kernel
theorem dX12_copy_195 : decode cX12_copy 195 = .ok (.goto (-32), 3) := by decide +kernel
theorem dX12_copy_198 : decode cX12_copy 198 = .ok (.iconst 1, 1) := by decide +kernel
theorem dX12_copy_199 : decode cX12_copy 199 = .ok (.ireturn, 1) := by decide +kernel
theorem dX12_isArray_0 : decode cX12_isArray 0 = .ok (.iload_n 1, 1) := by decide +kernel
theorem dX12_isArray_1 : decode cX12_isArray 1 = .ok (.i2l, 1) := by decide +kernel
theorem dX12_isArray_2 : decode cX12_isArray 2 = .ok (.lconst 0, 1) := by decide +kernel
theorem dX12_isArray_3 : decode cX12_isArray 3 = .ok (.aload_n 0, 1) := by decide +kernel
theorem dX12_isArray_4 : decode cX12_isArray 4 = .ok (.getfield 204, 3) := by decide +kernel
theorem dX12_isArray_7 : decode cX12_isArray 7 = .ok (.iconst 1, 1) := by decide +kernel
theorem dX12_isArray_8 : decode cX12_isArray 8 = .ok (.isub, 1) := by decide +kernel
theorem dX12_isArray_9 : decode cX12_isArray 9 = .ok (.i2l, 1) := by decide +kernel
theorem dX12_isArray_10 : decode cX12_isArray 10 = .ok (.invokestatic 154, 3) := by decide +kernel
theorem dX12_isArray_13 : decode cX12_isArray 13 = .ok (.ireturn, 1) := by decide +kernel
theorem dX12_array_0 : decode cX12_array 0 = .ok (.iload_n 1, 1) := by decide +kernel
theorem dX12_array_1 : decode cX12_array 1 = .ok (.i2l, 1) := by decide +kernel
theorem dX12_array_2 : decode cX12_array 2 = .ok (.lconst 0, 1) := by decide +kernel
theorem dX12_array_3 : decode cX12_array 3 = .ok (.ldc2_w 212, 3) := by decide +kernel
theorem dX12_array_6 : decode cX12_array 6 = .ok (.invokestatic 154, 3) := by decide +kernel
theorem dX12_array_9 : decode cX12_array 9 = .ok (.ifCond .eq 9, 3) := by decide +kernel
theorem dX12_array_12 : decode cX12_array 12 = .ok (.iload_n 2, 1) := by decide +kernel
theorem dX12_array_13 : decode cX12_array 13 = .ok (.bipush 20, 2) := by decide +kernel
theorem dX12_array_15 : decode cX12_array 15 = .ok (.if_icmp .le 5, 3) := by decide +kernel
theorem dX12_array_18 : decode cX12_array 18 = .ok (.iconst (-1), 1) := by decide +kernel
theorem dX12_array_19 : decode cX12_array 19 = .ok (.ireturn, 1) := by decide +kernel
theorem dX12_array_20 : decode cX12_array 20 = .ok (.aload_n 0, 1) := by decide +kernel
theorem dX12_array_21 : decode cX12_array 21 = .ok (.getfield 204, 3) := by decide +kernel
theorem dX12_array_24 : decode cX12_array 24 = .ok (.bipush 8, 2) := by decide +kernel
theorem dX12_array_26 : decode cX12_array 26 = .ok (.if_icmp .ne 6, 3) := by decide +kernel
theorem dX12_array_29 : decode cX12_array 29 = .ok (.bipush (-2), 2) := by decide +kernel
theorem dX12_array_31 : decode cX12_array 31 = .ok (.ireturn, 1) := by decide +kernel
theorem dX12_array_32 : decode cX12_array 32 = .ok (.iload_n 2, 1) := by decide +kernel
theorem dX12_array_33 : decode cX12_array 33 = .ok (.ifCond .ge 9, 3) := by decide +kernel
theorem dX12_array_36 : decode cX12_array 36 = .ok (.aload_n 0, 1) := by decide +kernel
theorem dX12_array_37 : decode cX12_array 37 = .ok (.iconst 5, 1) := by decide +kernel
theorem dX12_array_38 : decode cX12_array 38 = .ok (.invokevirtual 207, 3) := by decide +kernel
theorem dX12_array_41 : decode cX12_array 41 = .ok (.ireturn, 1) := by decide +kernel
theorem dX12_array_42 : decode cX12_array 42 = .ok (.aload_n 0, 1) := by decide +kernel
theorem dX12_array_43 : decode cX12_array 43 = .ok (.getfield 66, 3) := by decide +kernel
theorem dX12_array_46 : decode cX12_array 46 = .ok (.aload_n 0, 1) := by decide +kernel
theorem dX12_array_47 : decode cX12_array 47 = .ok (.getfield 204, 3) := by decide +kernel
theorem dX12_array_50 : decode cX12_array 50 = .ok (.iload_n 1, 1) := by decide +kernel
theorem dX12_array_51 : decode cX12_array 51 = .ok (.iastore, 1) := by decide +kernel
theorem dX12_array_52 : decode cX12_array 52 = .ok (.aload_n 0, 1) := by decide +kernel
theorem dX12_array_53 : decode cX12_array 53 = .ok (.getfield 69, 3) := by decide +kernel
theorem dX12_array_56 : decode cX12_array 56 = .ok (.aload_n 0, 1) := by decide +kernel
theorem dX12_array_57 : decode cX12_array 57 = .ok (.getfield 204, 3) := by decide +kernel
theorem dX12_array_60 : decode cX12_array 60 = .ok (.iload_n 2, 1) := by decide +kernel
theorem dX12_array_61 : decode cX12_array 61 = .ok (.iastore, 1) := by decide +kernel
theorem dX12_array_62 : decode cX12_array 62 = .ok (.iconst 0, 1) := by decide +kernel
theorem dX12_array_63 : decode cX12_array 63 = .ok (.istore_n 3, 1) := by decide +kernel
theorem dX12_array_64 : decode cX12_array 64 = .ok (.iload_n 3, 1) := by decide +kernel
theorem dX12_array_65 : decode cX12_array 65 = .ok (.bipush 20, 2) := by decide +kernel
theorem dX12_array_67 : decode cX12_array 67 = .ok (.if_icmp .ge 25, 3) := by decide +kernel
theorem dX12_array_70 : decode cX12_array 70 = .ok (.aload_n 0, 1) := by decide +kernel
theorem dX12_array_71 : decode cX12_array 71 = .ok (.getfield 72, 3) := by decide +kernel
theorem dX12_array_74 : decode cX12_array 74 = .ok (.bipush 20, 2) := by decide +kernel
theorem dX12_array_76 : decode cX12_array 76 = .ok (.aload_n 0, 1) := by decide +kernel
theorem dX12_array_77 : decode cX12_array 77 = .ok (.getfield 204, 3) := by decide +kernel
theorem dX12_array_80 : decode cX12_array 80 = .ok (.imul, 1) := by decide +kernel
theorem dX12_array_81 : decode cX12_array 81 = .ok (.iload_n 3, 1) := by decide +kernel
theorem dX12_array_82 : decode cX12_array 82 = .ok (.iadd, 1) := by decide +kernel
theorem dX12_array_83 : decode cX12_array 83 = .ok (.bipush (-9), 2) := by decide +kernel
theorem dX12_array_85 : decode cX12_array 85 = .ok (.iastore, 1) := by decide +kernel
theorem dX12_array_86 : decode cX12_array 86 = .ok (.iinc 3 1, 3) := by decide +kernel
theorem dX12_array_89 : decode cX12_array 89 = .ok (.goto (-25), 3) := by decide +kernel
theorem dX12_array_92 : decode cX12_array 92 = .ok (.aload_n 0, 1) := by decide +kernel
theorem dX12_array_93 : decode cX12_array 93 = .ok (.dup, 1) := by decide +kernel
theorem dX12_array_94 : decode cX12_array 94 = .ok (.getfield 204, 3) := by decide +kernel
theorem dX12_array_97 : decode cX12_array 97 = .ok (.iconst 1, 1) := by decide +kernel
theorem dX12_array_98 : decode cX12_array 98 = .ok (.iadd, 1) := by decide +kernel
theorem dX12_array_99 : decode cX12_array 99 = .ok (.putfield 204, 3) := by decide +kernel
theorem dX12_array_102 : decode cX12_array 102 = .ok (.aload_n 0, 1) := by decide +kernel
theorem dX12_array_103 : decode cX12_array 103 = .ok (.getfield 204, 3) := by decide +kernel
theorem dX12_array_106 : decode cX12_array 106 = .ok (.iconst 1, 1) := by decide +kernel
theorem dX12_array_107 : decode cX12_array 107 = .ok (.isub, 1) := by decide +kernel
theorem dX12_array_108 : decode cX12_array 108 = .ok (.ireturn, 1) := by decide +kernel
theorem dX12_row_0 : decode cX12_row 0 = .ok (.aload_n 0, 1) := by decide +kernel
theorem dX12_row_1 : decode cX12_row 1 = .ok (.iload_n 1, 1) := by decide +kernel
theorem dX12_row_2 : decode cX12_row 2 = .ok (.invokevirtual 214, 3) := by decide +kernel
theorem dX12_row_5 : decode cX12_row 5 = .ok (.ifCond .eq 9, 3) := by decide +kernel
theorem dX12_row_8 : decode cX12_row 8 = .ok (.iload_n 3, 1) := by decide +kernel
theorem dX12_row_9 : decode cX12_row 9 = .ok (.bipush 20, 2) := by decide +kernel
theorem dX12_row_11 : decode cX12_row 11 = .ok (.if_icmp .le 5, 3) := by decide +kernel
theorem dX12_row_14 : decode cX12_row 14 = .ok (.iconst (-1), 1) := by decide +kernel
theorem dX12_row_15 : decode cX12_row 15 = .ok (.ireturn, 1) := by decide +kernel
theorem dX12_row_16 : decode cX12_row 16 = .ok (.iload_n 2, 1) := by decide +kernel
theorem dX12_row_17 : decode cX12_row 17 = .ok (.i2l, 1) := by decide +kernel
theorem dX12_row_18 : decode cX12_row 18 = .ok (.lconst 0, 1) := by decide +kernel
theorem dX12_row_19 : decode cX12_row 19 = .ok (.aload_n 0, 1) := by decide +kernel
theorem dX12_row_20 : decode cX12_row 20 = .ok (.getfield 69, 3) := by decide +kernel
theorem dX12_row_23 : decode cX12_row 23 = .ok (.iload_n 1, 1) := by decide +kernel
theorem dX12_row_24 : decode cX12_row 24 = .ok (.iaload, 1) := by decide +kernel
theorem dX12_row_25 : decode cX12_row 25 = .ok (.iconst 1, 1) := by decide +kernel
theorem dX12_row_26 : decode cX12_row 26 = .ok (.isub, 1) := by decide +kernel
theorem dX12_row_27 : decode cX12_row 27 = .ok (.i2l, 1) := by decide +kernel
theorem dX12_row_28 : decode cX12_row 28 = .ok (.invokestatic 154, 3) := by decide +kernel
theorem dX12_row_31 : decode cX12_row 31 = .ok (.ifCond .ne 9, 3) := by decide +kernel
theorem dX12_row_34 : decode cX12_row 34 = .ok (.aload_n 0, 1) := by decide +kernel
theorem dX12_row_35 : decode cX12_row 35 = .ok (.iconst 2, 1) := by decide +kernel
theorem dX12_row_36 : decode cX12_row 36 = .ok (.invokevirtual 207, 3) := by decide +kernel
theorem dX12_row_39 : decode cX12_row 39 = .ok (.ireturn, 1) := by decide +kernel
theorem dX12_row_40 : decode cX12_row 40 = .ok (.iload_n 3, 1) := by decide +kernel
theorem dX12_row_41 : decode cX12_row 41 = .ok (.ifCond .ge 9, 3) := by decide +kernel
theorem dX12_row_44 : decode cX12_row 44 = .ok (.aload_n 0, 1) := by decide +kernel
theorem dX12_row_45 : decode cX12_row 45 = .ok (.iconst 5, 1) := by decide +kernel
theorem dX12_row_46 : decode cX12_row 46 = .ok (.invokevirtual 207, 3) := by decide +kernel
theorem dX12_row_49 : decode cX12_row 49 = .ok (.ireturn, 1) := by decide +kernel
theorem dX12_row_50 : decode cX12_row 50 = .ok (.aload_n 0, 1) := by decide +kernel
theorem dX12_row_51 : decode cX12_row 51 = .ok (.getfield 72, 3) := by decide +kernel
theorem dX12_row_54 : decode cX12_row 54 = .ok (.bipush 20, 2) := by decide +kernel
theorem dX12_row_56 : decode cX12_row 56 = .ok (.iload_n 1, 1) := by decide +kernel
theorem dX12_row_57 : decode cX12_row 57 = .ok (.imul, 1) := by decide +kernel
theorem dX12_row_58 : decode cX12_row 58 = .ok (.iload_n 2, 1) := by decide +kernel
theorem dX12_row_59 : decode cX12_row 59 = .ok (.iadd, 1) := by decide +kernel
theorem dX12_row_60 : decode cX12_row 60 = .ok (.iload_n 3, 1) := by decide +kernel
theorem dX12_row_61 : decode cX12_row 61 = .ok (.iastore, 1) := by decide +kernel
theorem dX12_row_62 : decode cX12_row 62 = .ok (.iconst 0, 1) := by decide +kernel
theorem dX12_row_63 : decode cX12_row 63 = .ok (.istore 4, 2) := by decide +kernel
theorem dX12_row_65 : decode cX12_row 65 = .ok (.iload 4, 2) := by decide +kernel
theorem dX12_row_67 : decode cX12_row 67 = .ok (.bipush 20, 2) := by decide +kernel
theorem dX12_row_69 : decode cX12_row 69 = .ok (.if_icmp .ge 28, 3) := by decide +kernel
theorem dX12_row_72 : decode cX12_row 72 = .ok (.aload_n 0, 1) := by decide +kernel
theorem dX12_row_73 : decode cX12_row 73 = .ok (.getfield 75, 3) := by decide +kernel
theorem dX12_row_76 : decode cX12_row 76 = .ok (.sipush 400, 3) := by decide +kernel
theorem dX12_row_79 : decode cX12_row 79 = .ok (.iload_n 1, 1) := by decide +kernel
theorem dX12_row_80 : decode cX12_row 80 = .ok (.imul, 1) := by decide +kernel
theorem dX12_row_81 : decode cX12_row 81 = .ok (.bipush 20, 2) := by decide +kernel
theorem dX12_row_83 : decode cX12_row 83 = .ok (.iload_n 2, 1) := by decide +kernel
theorem dX12_row_84 : decode cX12_row 84 = .ok (.imul, 1) := by decide +kernel
theorem dX12_row_85 : decode cX12_row 85 = .ok (.iadd, 1) := by decide +kernel
theorem dX12_row_86 : decode cX12_row 86 = .ok (.iload 4, 2) := by decide +kernel
theorem dX12_row_88 : decode cX12_row 88 = .ok (.iadd, 1) := by decide +kernel
theorem dX12_row_89 : decode cX12_row 89 = .ok (.lconst 0, 1) := by decide +kernel
theorem dX12_row_90 : decode cX12_row 90 = .ok (.lastore, 1) := by decide +kernel
theorem dX12_row_91 : decode cX12_row 91 = .ok (.iinc 4 1, 3) := by decide +kernel
theorem dX12_row_94 : decode cX12_row 94 = .ok (.goto (-29), 3) := by decide +kernel
theorem dX12_row_97 : decode cX12_row 97 = .ok (.iload_n 3, 1) := by decide +kernel
theorem dX12_row_98 : decode cX12_row 98 = .ok (.ireturn, 1) := by decide +kernel
theorem dX12_tear_0 : decode cX12_tear 0 = .ok (.aload_n 0, 1) := by decide +kernel
theorem dX12_tear_1 : decode cX12_tear 1 = .ok (.iload_n 1, 1) := by decide +kernel
theorem dX12_tear_2 : decode cX12_tear 2 = .ok (.invokevirtual 214, 3) := by decide +kernel
theorem dX12_tear_5 : decode cX12_tear 5 = .ok (.ifCond .ne 5, 3) := by decide +kernel
theorem dX12_tear_8 : decode cX12_tear 8 = .ok (.iconst (-1), 1) := by decide +kernel
theorem dX12_tear_9 : decode cX12_tear 9 = .ok (.ireturn, 1) := by decide +kernel
theorem dX12_tear_10 : decode cX12_tear 10 = .ok (.iload_n 2, 1) := by decide +kernel
theorem dX12_tear_11 : decode cX12_tear 11 = .ok (.i2l, 1) := by decide +kernel
theorem dX12_tear_12 : decode cX12_tear 12 = .ok (.lconst 0, 1) := by decide +kernel
theorem dX12_tear_13 : decode cX12_tear 13 = .ok (.aload_n 0, 1) := by decide +kernel
theorem dX12_tear_14 : decode cX12_tear 14 = .ok (.getfield 69, 3) := by decide +kernel
theorem dX12_tear_17 : decode cX12_tear 17 = .ok (.iload_n 1, 1) := by decide +kernel
theorem dX12_tear_18 : decode cX12_tear 18 = .ok (.iaload, 1) := by decide +kernel
theorem dX12_tear_19 : decode cX12_tear 19 = .ok (.iconst 1, 1) := by decide +kernel
theorem dX12_tear_20 : decode cX12_tear 20 = .ok (.isub, 1) := by decide +kernel
theorem dX12_tear_21 : decode cX12_tear 21 = .ok (.i2l, 1) := by decide +kernel
theorem dX12_tear_22 : decode cX12_tear 22 = .ok (.invokestatic 154, 3) := by decide +kernel
theorem dX12_tear_25 : decode cX12_tear 25 = .ok (.ifCond .ne 9, 3) := by decide +kernel
theorem dX12_tear_28 : decode cX12_tear 28 = .ok (.aload_n 0, 1) := by decide +kernel
theorem dX12_tear_29 : decode cX12_tear 29 = .ok (.iconst 2, 1) := by decide +kernel
theorem dX12_tear_30 : decode cX12_tear 30 = .ok (.invokevirtual 207, 3) := by decide +kernel
theorem dX12_tear_33 : decode cX12_tear 33 = .ok (.ireturn, 1) := by decide +kernel
theorem dX12_tear_34 : decode cX12_tear 34 = .ok (.aload_n 0, 1) := by decide +kernel
theorem dX12_tear_35 : decode cX12_tear 35 = .ok (.getfield 72, 3) := by decide +kernel
theorem dX12_tear_38 : decode cX12_tear 38 = .ok (.bipush 20, 2) := by decide +kernel
theorem dX12_tear_40 : decode cX12_tear 40 = .ok (.iload_n 1, 1) := by decide +kernel
theorem dX12_tear_41 : decode cX12_tear 41 = .ok (.imul, 1) := by decide +kernel
theorem dX12_tear_42 : decode cX12_tear 42 = .ok (.iload_n 2, 1) := by decide +kernel
theorem dX12_tear_43 : decode cX12_tear 43 = .ok (.iadd, 1) := by decide +kernel
theorem dX12_tear_44 : decode cX12_tear 44 = .ok (.bipush (-9), 2) := by decide +kernel
theorem dX12_tear_46 : decode cX12_tear 46 = .ok (.iastore, 1) := by decide +kernel
theorem dX12_tear_47 : decode cX12_tear 47 = .ok (.iconst 1, 1) := by decide +kernel
theorem dX12_tear_48 : decode cX12_tear 48 = .ok (.ireturn, 1) := by decide +kernel
theorem dX12_lacks_0 : decode cX12_lacks 0 = .ok (.lload_n 2, 1) := by decide +kernel
theorem dX12_lacks_1 : decode cX12_lacks 1 = .ok (.lconst 0, 1) := by decide +kernel
theorem dX12_lacks_2 : decode cX12_lacks 2 = .ok (.aload_n 0, 1) := by decide +kernel
theorem dX12_lacks_3 : decode cX12_lacks 3 = .ok (.getfield 69, 3) := by decide +kernel
theorem dX12_lacks_6 : decode cX12_lacks 6 = .ok (.iload_n 1, 1) := by decide +kernel
theorem dX12_lacks_7 : decode cX12_lacks 7 = .ok (.iaload, 1) := by decide +kernel
theorem dX12_lacks_8 : decode cX12_lacks 8 = .ok (.iconst 1, 1) := by decide +kernel
theorem dX12_lacks_9 : decode cX12_lacks 9 = .ok (.isub, 1) := by decide +kernel
theorem dX12_lacks_10 : decode cX12_lacks 10 = .ok (.i2l, 1) := by decide +kernel
theorem dX12_lacks_11 : decode cX12_lacks 11 = .ok (.invokestatic 154, 3) := by decide +kernel
theorem dX12_lacks_14 : decode cX12_lacks 14 = .ok (.ifCond .ne 5, 3) := by decide +kernel
theorem dX12_lacks_17 : decode cX12_lacks 17 = .ok (.iconst 2, 1) := by decide +kernel
theorem dX12_lacks_18 : decode cX12_lacks 18 = .ok (.ireturn, 1) := by decide +kernel
theorem dX12_lacks_19 : decode cX12_lacks 19 = .ok (.aload_n 0, 1) := by decide +kernel
theorem dX12_lacks_20 : decode cX12_lacks 20 = .ok (.getfield 72, 3) := by decide +kernel
theorem dX12_lacks_23 : decode cX12_lacks 23 = .ok (.bipush 20, 2) := by decide +kernel
theorem dX12_lacks_25 : decode cX12_lacks 25 = .ok (.iload_n 1, 1) := by decide +kernel
theorem dX12_lacks_26 : decode cX12_lacks 26 = .ok (.imul, 1) := by decide +kernel
theorem dX12_lacks_27 : decode cX12_lacks 27 = .ok (.lload_n 2, 1) := by decide +kernel
theorem dX12_lacks_28 : decode cX12_lacks 28 = .ok (.l2i, 1) := by decide +kernel
theorem dX12_lacks_29 : decode cX12_lacks 29 = .ok (.iadd, 1) := by decide +kernel
theorem dX12_lacks_30 : decode cX12_lacks 30 = .ok (.iaload, 1) := by decide +kernel
theorem dX12_lacks_31 : decode cX12_lacks 31 = .ok (.istore 6, 2) := by decide +kernel
theorem dX12_lacks_33 : decode cX12_lacks 33 = .ok (.iload 6, 2) := by decide +kernel
theorem dX12_lacks_35 : decode cX12_lacks 35 = .ok (.bipush (-9), 2) := by decide +kernel
theorem dX12_lacks_37 : decode cX12_lacks 37 = .ok (.if_icmp .ne 7, 3) := by decide +kernel
theorem dX12_lacks_40 : decode cX12_lacks 40 = .ok (.iconst 1, 1) := by decide +kernel
theorem dX12_lacks_41 : decode cX12_lacks 41 = .ok (.goto 22, 3) := by decide +kernel
theorem dX12_lacks_44 : decode cX12_lacks 44 = .ok (.lload 4, 2) := by decide +kernel
theorem dX12_lacks_46 : decode cX12_lacks 46 = .ok (.lconst 0, 1) := by decide +kernel
theorem dX12_lacks_47 : decode cX12_lacks 47 = .ok (.iload 6, 2) := by decide +kernel
theorem dX12_lacks_49 : decode cX12_lacks 49 = .ok (.iconst 1, 1) := by decide +kernel
theorem dX12_lacks_50 : decode cX12_lacks 50 = .ok (.isub, 1) := by decide +kernel
theorem dX12_lacks_51 : decode cX12_lacks 51 = .ok (.i2l, 1) := by decide +kernel
theorem dX12_lacks_52 : decode cX12_lacks 52 = .ok (.invokestatic 154, 3) := by decide +kernel
theorem dX12_lacks_55 : decode cX12_lacks 55 = .ok (.ifCond .eq 7, 3) := by decide +kernel
theorem dX12_lacks_58 : decode cX12_lacks 58 = .ok (.iconst 0, 1) := by decide +kernel
theorem dX12_lacks_59 : decode cX12_lacks 59 = .ok (.goto 4, 3) := by decide +kernel
theorem dX12_lacks_62 : decode cX12_lacks 62 = .ok (.iconst 2, 1) := by decide +kernel
theorem dX12_lacks_63 : decode cX12_lacks 63 = .ok (.ireturn, 1) := by decide +kernel
theorem dX12_at_0 : decode cX12_at 0 = .ok (.sipush 400, 3) := by decide +kernel
theorem dX12_at_3 : decode cX12_at 3 = .ok (.iload_n 1, 1) := by decide +kernel
theorem dX12_at_4 : decode cX12_at 4 = .ok (.imul, 1) := by decide +kernel
theorem dX12_at_5 : decode cX12_at 5 = .ok (.bipush 20, 2) := by decide +kernel
theorem dX12_at_7 : decode cX12_at 7 = .ok (.lload_n 2, 1) := by decide +kernel
theorem dX12_at_8 : decode cX12_at 8 = .ok (.l2i, 1) := by decide +kernel
theorem dX12_at_9 : decode cX12_at 9 = .ok (.imul, 1) := by decide +kernel
theorem dX12_at_10 : decode cX12_at 10 = .ok (.iadd, 1) := by decide +kernel
theorem dX12_at_11 : decode cX12_at 11 = .ok (.lload 4, 2) := by decide +kernel
theorem dX12_at_13 : decode cX12_at 13 = .ok (.l2i, 1) := by decide +kernel
theorem dX12_at_14 : decode cX12_at 14 = .ok (.iadd, 1) := by decide +kernel
theorem dX12_at_15 : decode cX12_at 15 = .ok (.ireturn, 1) := by decide +kernel
theorem dX12_cut_0 : decode cX12_cut 0 = .ok (.iload_n 0, 1) := by decide +kernel
theorem dX12_cut_1 : decode cX12_cut 1 = .ok (.ifCond .ne 10, 3) := by decide +kernel
theorem dX12_cut_4 : decode cX12_cut 4 = .ok (.lload_n 1, 1) := by decide +kernel
theorem dX12_cut_5 : decode cX12_cut 5 = .ok (.l2i, 1) := by decide +kernel
theorem dX12_cut_6 : decode cX12_cut 6 = .ok (.i2b, 1) := by decide +kernel
theorem dX12_cut_7 : decode cX12_cut 7 = .ok (.i2l, 1) := by decide +kernel
theorem dX12_cut_8 : decode cX12_cut 8 = .ok (.goto 27, 3) := by decide +kernel
theorem dX12_cut_11 : decode cX12_cut 11 = .ok (.iload_n 0, 1) := by decide +kernel
theorem dX12_cut_12 : decode cX12_cut 12 = .ok (.iconst 1, 1) := by decide +kernel
theorem dX12_cut_13 : decode cX12_cut 13 = .ok (.if_icmp .ne 10, 3) := by decide +kernel
theorem dX12_cut_16 : decode cX12_cut 16 = .ok (.lload_n 1, 1) := by decide +kernel
theorem dX12_cut_17 : decode cX12_cut 17 = .ok (.l2i, 1) := by decide +kernel
theorem dX12_cut_18 : decode cX12_cut 18 = .ok (.i2s, 1) := by decide +kernel
theorem dX12_cut_19 : decode cX12_cut 19 = .ok (.i2l, 1) := by decide +kernel
theorem dX12_cut_20 : decode cX12_cut 20 = .ok (.goto 15, 3) := by decide +kernel
theorem dX12_cut_23 : decode cX12_cut 23 = .ok (.iload_n 0, 1) := by decide +kernel
theorem dX12_cut_24 : decode cX12_cut 24 = .ok (.iconst 2, 1) := by decide +kernel
theorem dX12_cut_25 : decode cX12_cut 25 = .ok (.if_icmp .ne 9, 3) := by decide +kernel
theorem dX12_cut_28 : decode cX12_cut 28 = .ok (.lload_n 1, 1) := by decide +kernel
theorem dX12_cut_29 : decode cX12_cut 29 = .ok (.l2i, 1) := by decide +kernel
theorem dX12_cut_30 : decode cX12_cut 30 = .ok (.i2l, 1) := by decide +kernel
theorem dX12_cut_31 : decode cX12_cut 31 = .ok (.goto 4, 3) := by decide +kernel
theorem dX12_cut_34 : decode cX12_cut 34 = .ok (.lload_n 1, 1) := by decide +kernel
theorem dX12_cut_35 : decode cX12_cut 35 = .ok (.lreturn, 1) := by decide +kernel
theorem dX12_lay_0 : decode cX12_lay 0 = .ok (.aload_n 0, 1) := by decide +kernel
theorem dX12_lay_1 : decode cX12_lay 1 = .ok (.iload_n 1, 1) := by decide +kernel
theorem dX12_lay_2 : decode cX12_lay 2 = .ok (.invokevirtual 214, 3) := by decide +kernel
theorem dX12_lay_5 : decode cX12_lay 5 = .ok (.ifCond .ne 5, 3) := by decide +kernel
theorem dX12_lay_8 : decode cX12_lay 8 = .ok (.iconst (-1), 1) := by decide +kernel
theorem dX12_lay_9 : decode cX12_lay 9 = .ok (.ireturn, 1) := by decide +kernel
theorem dX12_lay_10 : decode cX12_lay 10 = .ok (.aload_n 0, 1) := by decide +kernel
theorem dX12_lay_11 : decode cX12_lay 11 = .ok (.iload_n 1, 1) := by decide +kernel
theorem dX12_lay_12 : decode cX12_lay 12 = .ok (.iload_n 2, 1) := by decide +kernel
theorem dX12_lay_13 : decode cX12_lay 13 = .ok (.i2l, 1) := by decide +kernel
theorem dX12_lay_14 : decode cX12_lay 14 = .ok (.iload_n 3, 1) := by decide +kernel
theorem dX12_lay_15 : decode cX12_lay 15 = .ok (.i2l, 1) := by decide +kernel
theorem dX12_lay_16 : decode cX12_lay 16 = .ok (.invokevirtual 217, 3) := by decide +kernel
theorem dX12_lay_19 : decode cX12_lay 19 = .ok (.istore 6, 2) := by decide +kernel
theorem dX12_lay_21 : decode cX12_lay 21 = .ok (.iload 6, 2) := by decide +kernel
theorem dX12_lay_23 : decode cX12_lay 23 = .ok (.ifCond .le 10, 3) := by decide +kernel
theorem dX12_lay_26 : decode cX12_lay 26 = .ok (.aload_n 0, 1) := by decide +kernel
theorem dX12_lay_27 : decode cX12_lay 27 = .ok (.iload 6, 2) := by decide +kernel
theorem dX12_lay_29 : decode cX12_lay 29 = .ok (.invokevirtual 207, 3) := by decide +kernel
theorem dX12_lay_32 : decode cX12_lay 32 = .ok (.ireturn, 1) := by decide +kernel
theorem dX12_lay_33 : decode cX12_lay 33 = .ok (.aload_n 0, 1) := by decide +kernel
theorem dX12_lay_34 : decode cX12_lay 34 = .ok (.getfield 75, 3) := by decide +kernel
theorem dX12_lay_37 : decode cX12_lay 37 = .ok (.aload_n 0, 1) := by decide +kernel
theorem dX12_lay_38 : decode cX12_lay 38 = .ok (.iload_n 1, 1) := by decide +kernel
theorem dX12_lay_39 : decode cX12_lay 39 = .ok (.iload_n 2, 1) := by decide +kernel
theorem dX12_lay_40 : decode cX12_lay 40 = .ok (.i2l, 1) := by decide +kernel
theorem dX12_lay_41 : decode cX12_lay 41 = .ok (.iload_n 3, 1) := by decide +kernel
theorem dX12_lay_42 : decode cX12_lay 42 = .ok (.i2l, 1) := by decide +kernel
theorem dX12_lay_43 : decode cX12_lay 43 = .ok (.invokevirtual 221, 3) := by decide +kernel
theorem dX12_lay_46 : decode cX12_lay 46 = .ok (.aload_n 0, 1) := by decide +kernel
theorem dX12_lay_47 : decode cX12_lay 47 = .ok (.getfield 66, 3) := by decide +kernel
theorem dX12_lay_50 : decode cX12_lay 50 = .ok (.iload_n 1, 1) := by decide +kernel
theorem dX12_lay_51 : decode cX12_lay 51 = .ok (.iaload, 1) := by decide +kernel
theorem dX12_lay_52 : decode cX12_lay 52 = .ok (.lload 4, 2) := by decide +kernel
theorem dX12_lay_54 : decode cX12_lay 54 = .ok (.invokestatic 224, 3) := by decide +kernel
theorem dX12_lay_57 : decode cX12_lay 57 = .ok (.lastore, 1) := by decide +kernel
theorem dX12_lay_58 : decode cX12_lay 58 = .ok (.iconst 1, 1) := by decide +kernel
theorem dX12_lay_59 : decode cX12_lay 59 = .ok (.ireturn, 1) := by decide +kernel
theorem dX12_get_0 : decode cX12_get 0 = .ok (.aload_n 0, 1) := by decide +kernel
theorem dX12_get_1 : decode cX12_get 1 = .ok (.iload_n 1, 1) := by decide +kernel
theorem dX12_get_2 : decode cX12_get 2 = .ok (.invokevirtual 214, 3) := by decide +kernel
theorem dX12_get_5 : decode cX12_get 5 = .ok (.ifCond .ne 5, 3) := by decide +kernel
theorem dX12_get_8 : decode cX12_get 8 = .ok (.iconst (-1), 1) := by decide +kernel
theorem dX12_get_9 : decode cX12_get 9 = .ok (.ireturn, 1) := by decide +kernel
theorem dX12_get_10 : decode cX12_get 10 = .ok (.aload_n 0, 1) := by decide +kernel
theorem dX12_get_11 : decode cX12_get 11 = .ok (.iload_n 1, 1) := by decide +kernel
theorem dX12_get_12 : decode cX12_get 12 = .ok (.iload_n 2, 1) := by decide +kernel
theorem dX12_get_13 : decode cX12_get 13 = .ok (.i2l, 1) := by decide +kernel
theorem dX12_get_14 : decode cX12_get 14 = .ok (.iload_n 3, 1) := by decide +kernel
theorem dX12_get_15 : decode cX12_get 15 = .ok (.i2l, 1) := by decide +kernel
theorem dX12_get_16 : decode cX12_get 16 = .ok (.invokevirtual 217, 3) := by decide +kernel
theorem dX12_get_19 : decode cX12_get 19 = .ok (.istore 4, 2) := by decide +kernel
theorem dX12_get_21 : decode cX12_get 21 = .ok (.iload 4, 2) := by decide +kernel
theorem dX12_get_23 : decode cX12_get 23 = .ok (.ifCond .le 10, 3) := by decide +kernel
theorem dX12_get_26 : decode cX12_get 26 = .ok (.aload_n 0, 1) := by decide +kernel
theorem dX12_get_27 : decode cX12_get 27 = .ok (.iload 4, 2) := by decide +kernel
theorem dX12_get_29 : decode cX12_get 29 = .ok (.invokevirtual 207, 3) := by decide +kernel
theorem dX12_get_32 : decode cX12_get 32 = .ok (.ireturn, 1) := by decide +kernel
theorem dX12_get_33 : decode cX12_get 33 = .ok (.aload_n 0, 1) := by decide +kernel
theorem dX12_get_34 : decode cX12_get 34 = .ok (.aload_n 0, 1) := by decide +kernel
theorem dX12_get_35 : decode cX12_get 35 = .ok (.getfield 75, 3) := by decide +kernel
theorem dX12_get_38 : decode cX12_get 38 = .ok (.aload_n 0, 1) := by decide +kernel
theorem dX12_get_39 : decode cX12_get 39 = .ok (.iload_n 1, 1) := by decide +kernel
theorem dX12_get_40 : decode cX12_get 40 = .ok (.iload_n 2, 1) := by decide +kernel
theorem dX12_get_41 : decode cX12_get 41 = .ok (.i2l, 1) := by decide +kernel
theorem dX12_get_42 : decode cX12_get 42 = .ok (.iload_n 3, 1) := by decide +kernel
theorem dX12_get_43 : decode cX12_get 43 = .ok (.i2l, 1) := by decide +kernel
theorem dX12_get_44 : decode cX12_get 44 = .ok (.invokevirtual 221, 3) := by decide +kernel
theorem dX12_get_47 : decode cX12_get 47 = .ok (.laload, 1) := by decide +kernel
theorem dX12_get_48 : decode cX12_get 48 = .ok (.putfield 228, 3) := by decide +kernel
theorem dX12_get_51 : decode cX12_get 51 = .ok (.iconst 1, 1) := by decide +kernel
theorem dX12_get_52 : decode cX12_get 52 = .ok (.ireturn, 1) := by decide +kernel
theorem dX12_asked_0 : decode cX12_asked 0 = .ok (.aload_n 0, 1) := by decide +kernel
theorem dX12_asked_1 : decode cX12_asked 1 = .ok (.getfield 228, 3) := by decide +kernel
theorem dX12_asked_4 : decode cX12_asked 4 = .ok (.lreturn, 1) := by decide +kernel
theorem dX12_nextIn_0 : decode cX12_nextIn 0 = .ok (.iload_n 2, 1) := by decide +kernel
theorem dX12_nextIn_1 : decode cX12_nextIn 1 = .ok (.istore_n 3, 1) := by decide +kernel
theorem dX12_nextIn_2 : decode cX12_nextIn 2 = .ok (.iload_n 3, 1) := by decide +kernel
theorem dX12_nextIn_3 : decode cX12_nextIn 3 = .ok (.aload_n 0, 1) := by decide +kernel
theorem dX12_nextIn_4 : decode cX12_nextIn 4 = .ok (.getfield 170, 3) := by decide +kernel
theorem dX12_nextIn_7 : decode cX12_nextIn 7 = .ok (.if_icmp .ge 19, 3) := by decide +kernel
theorem dX12_nextIn_10 : decode cX12_nextIn 10 = .ok (.aload_n 0, 1) := by decide +kernel
theorem dX12_nextIn_11 : decode cX12_nextIn 11 = .ok (.getfield 29, 3) := by decide +kernel
theorem dX12_nextIn_14 : decode cX12_nextIn 14 = .ok (.iload_n 3, 1) := by decide +kernel
theorem dX12_nextIn_15 : decode cX12_nextIn 15 = .ok (.iaload, 1) := by decide +kernel
theorem dX12_nextIn_16 : decode cX12_nextIn 16 = .ok (.iload_n 1, 1) := by decide +kernel
theorem dX12_nextIn_17 : decode cX12_nextIn 17 = .ok (.if_icmp .eq 9, 3) := by decide +kernel
theorem dX12_nextIn_20 : decode cX12_nextIn 20 = .ok (.iinc 3 1, 3) := by decide +kernel
theorem dX12_nextIn_23 : decode cX12_nextIn 23 = .ok (.goto (-21), 3) := by decide +kernel
theorem dX12_nextIn_26 : decode cX12_nextIn 26 = .ok (.iload_n 3, 1) := by decide +kernel
theorem dX12_nextIn_27 : decode cX12_nextIn 27 = .ok (.ireturn, 1) := by decide +kernel
theorem dX12_turns_0 : decode cX12_turns 0 = .ok (.aload_n 0, 1) := by decide +kernel
theorem dX12_turns_1 : decode cX12_turns 1 = .ok (.getfield 84, 3) := by decide +kernel
theorem dX12_turns_4 : decode cX12_turns 4 = .ok (.iload_n 1, 1) := by decide +kernel
theorem dX12_turns_5 : decode cX12_turns 5 = .ok (.iaload, 1) := by decide +kernel
theorem dX12_turns_6 : decode cX12_turns 6 = .ok (.istore_n 2, 1) := by decide +kernel
theorem dX12_turns_7 : decode cX12_turns 7 = .ok (.aload_n 0, 1) := by decide +kernel
theorem dX12_turns_8 : decode cX12_turns 8 = .ok (.getfield 22, 3) := by decide +kernel
theorem dX12_turns_11 : decode cX12_turns 11 = .ok (.aload_n 0, 1) := by decide +kernel
theorem dX12_turns_12 : decode cX12_turns 12 = .ok (.getfield 32, 3) := by decide +kernel
theorem dX12_turns_15 : decode cX12_turns 15 = .ok (.iload_n 2, 1) := by decide +kernel
theorem dX12_turns_16 : decode cX12_turns 16 = .ok (.iaload, 1) := by decide +kernel
theorem dX12_turns_17 : decode cX12_turns 17 = .ok (.laload, 1) := by decide +kernel
theorem dX12_turns_18 : decode cX12_turns 18 = .ok (.aload_n 0, 1) := by decide +kernel
theorem dX12_turns_19 : decode cX12_turns 19 = .ok (.getfield 90, 3) := by decide +kernel
theorem dX12_turns_22 : decode cX12_turns 22 = .ok (.iload_n 1, 1) := by decide +kernel
theorem dX12_turns_23 : decode cX12_turns 23 = .ok (.laload, 1) := by decide +kernel
theorem dX12_turns_24 : decode cX12_turns 24 = .ok (.lcmp, 1) := by decide +kernel
theorem dX12_turns_25 : decode cX12_turns 25 = .ok (.ifCond .le 5, 3) := by decide +kernel
theorem dX12_turns_28 : decode cX12_turns 28 = .ok (.iconst 0, 1) := by decide +kernel
theorem dX12_turns_29 : decode cX12_turns 29 = .ok (.ireturn, 1) := by decide +kernel
theorem dX12_turns_30 : decode cX12_turns 30 = .ok (.aload_n 0, 1) := by decide +kernel
theorem dX12_turns_31 : decode cX12_turns 31 = .ok (.dup, 1) := by decide +kernel
theorem dX12_turns_32 : decode cX12_turns 32 = .ok (.getfield 232, 3) := by decide +kernel
theorem dX12_turns_35 : decode cX12_turns 35 = .ok (.iconst 1, 1) := by decide +kernel
theorem dX12_turns_36 : decode cX12_turns 36 = .ok (.iadd, 1) := by decide +kernel
theorem dX12_turns_37 : decode cX12_turns 37 = .ok (.putfield 232, 3) := by decide +kernel
theorem dX12_turns_40 : decode cX12_turns 40 = .ok (.aload_n 0, 1) := by decide +kernel
theorem dX12_turns_41 : decode cX12_turns 41 = .ok (.aload_n 0, 1) := by decide +kernel
theorem dX12_turns_42 : decode cX12_turns 42 = .ok (.getfield 235, 3) := by decide +kernel
theorem dX12_turns_45 : decode cX12_turns 45 = .ok (.ifCond .ne 13, 3) := by decide +kernel
theorem dX12_turns_48 : decode cX12_turns 48 = .ok (.aload_n 0, 1) := by decide +kernel
theorem dX12_turns_49 : decode cX12_turns 49 = .ok (.getfield 232, 3) := by decide +kernel
theorem dX12_turns_52 : decode cX12_turns 52 = .ok (.sipush 4000, 3) := by decide +kernel
theorem dX12_turns_55 : decode cX12_turns 55 = .ok (.if_icmp .le 7, 3) := by decide +kernel
theorem dX12_turns_58 : decode cX12_turns 58 = .ok (.iconst 1, 1) := by decide +kernel
theorem dX12_turns_59 : decode cX12_turns 59 = .ok (.goto 4, 3) := by decide +kernel
theorem dX12_turns_62 : decode cX12_turns 62 = .ok (.iconst 0, 1) := by decide +kernel
theorem dX12_turns_63 : decode cX12_turns 63 = .ok (.putfield 235, 3) := by decide +kernel
theorem dX12_turns_66 : decode cX12_turns 66 = .ok (.iconst 1, 1) := by decide +kernel
theorem dX12_turns_67 : decode cX12_turns 67 = .ok (.ireturn, 1) := by decide +kernel
theorem dX12_see_0 : decode cX12_see 0 = .ok (.aload_n 0, 1) := by decide +kernel
theorem dX12_see_1 : decode cX12_see 1 = .ok (.getfield 239, 3) := by decide +kernel
theorem dX12_see_4 : decode cX12_see 4 = .ok (.sipush 400, 3) := by decide +kernel
theorem dX12_see_7 : decode cX12_see 7 = .ok (.if_icmp .ne 9, 3) := by decide +kernel
theorem dX12_see_10 : decode cX12_see 10 = .ok (.aload_n 0, 1) := by decide +kernel
theorem dX12_see_11 : decode cX12_see 11 = .ok (.iconst 1, 1) := by decide +kernel
theorem dX12_see_12 : decode cX12_see 12 = .ok (.putfield 235, 3) := by decide +kernel
theorem dX12_see_15 : decode cX12_see 15 = .ok (.return_, 1) := by decide +kernel
theorem dX12_see_16 : decode cX12_see 16 = .ok (.aload_n 0, 1) := by decide +kernel
theorem dX12_see_17 : decode cX12_see 17 = .ok (.getfield 78, 3) := by decide +kernel
theorem dX12_see_20 : decode cX12_see 20 = .ok (.aload_n 0, 1) := by decide +kernel
theorem dX12_see_21 : decode cX12_see 21 = .ok (.getfield 239, 3) := by decide +kernel
theorem dX12_see_24 : decode cX12_see 24 = .ok (.iload_n 1, 1) := by decide +kernel
theorem dX12_see_25 : decode cX12_see 25 = .ok (.iastore, 1) := by decide +kernel
theorem dX12_see_26 : decode cX12_see 26 = .ok (.iconst 0, 1) := by decide +kernel
theorem dX12_see_27 : decode cX12_see 27 = .ok (.istore_n 2, 1) := by decide +kernel
theorem dX12_see_28 : decode cX12_see 28 = .ok (.iload_n 2, 1) := by decide +kernel
theorem dX12_see_29 : decode cX12_see 29 = .ok (.iconst 4, 1) := by decide +kernel
theorem dX12_see_30 : decode cX12_see 30 = .ok (.if_icmp .ge 42, 3) := by decide +kernel
theorem dX12_see_33 : decode cX12_see 33 = .ok (.aload_n 0, 1) := by decide +kernel
theorem dX12_see_34 : decode cX12_see 34 = .ok (.getfield 81, 3) := by decide +kernel
theorem dX12_see_37 : decode cX12_see 37 = .ok (.iconst 4, 1) := by decide +kernel
theorem dX12_see_38 : decode cX12_see 38 = .ok (.aload_n 0, 1) := by decide +kernel
theorem dX12_see_39 : decode cX12_see 39 = .ok (.getfield 239, 3) := by decide +kernel
theorem dX12_see_42 : decode cX12_see 42 = .ok (.imul, 1) := by decide +kernel
theorem dX12_see_43 : decode cX12_see 43 = .ok (.iload_n 2, 1) := by decide +kernel
theorem dX12_see_44 : decode cX12_see 44 = .ok (.iadd, 1) := by decide +kernel
theorem dX12_see_45 : decode cX12_see 45 = .ok (.iload_n 2, 1) := by decide +kernel
theorem dX12_see_46 : decode cX12_see 46 = .ok (.aload_n 0, 1) := by decide +kernel
theorem dX12_see_47 : decode cX12_see 47 = .ok (.getfield 32, 3) := by decide +kernel
theorem dX12_see_50 : decode cX12_see 50 = .ok (.iload_n 1, 1) := by decide +kernel
theorem dX12_see_51 : decode cX12_see 51 = .ok (.iaload, 1) := by decide +kernel
theorem dX12_see_52 : decode cX12_see 52 = .ok (.if_icmp .ge 12, 3) := by decide +kernel
theorem dX12_see_55 : decode cX12_see 55 = .ok (.aload_n 0, 1) := by decide +kernel
theorem dX12_see_56 : decode cX12_see 56 = .ok (.getfield 22, 3) := by decide +kernel
theorem dX12_see_59 : decode cX12_see 59 = .ok (.iload_n 2, 1) := by decide +kernel
theorem dX12_see_60 : decode cX12_see 60 = .ok (.laload, 1) := by decide +kernel
theorem dX12_see_61 : decode cX12_see 61 = .ok (.goto 4, 3) := by decide +kernel
theorem dX12_see_64 : decode cX12_see 64 = .ok (.lconst 0, 1) := by decide +kernel
theorem dX12_see_65 : decode cX12_see 65 = .ok (.lastore, 1) := by decide +kernel
theorem dX12_see_66 : decode cX12_see 66 = .ok (.iinc 2 1, 3) := by decide +kernel
theorem dX12_see_69 : decode cX12_see 69 = .ok (.goto (-41), 3) := by decide +kernel
theorem dX12_see_72 : decode cX12_see 72 = .ok (.aload_n 0, 1) := by decide +kernel
theorem dX12_see_73 : decode cX12_see 73 = .ok (.dup, 1) := by decide +kernel
theorem dX12_see_74 : decode cX12_see 74 = .ok (.getfield 239, 3) := by decide +kernel
theorem dX12_see_77 : decode cX12_see 77 = .ok (.iconst 1, 1) := by decide +kernel
theorem dX12_see_78 : decode cX12_see 78 = .ok (.iadd, 1) := by decide +kernel
theorem dX12_see_79 : decode cX12_see 79 = .ok (.putfield 239, 3) := by decide +kernel
theorem dX12_see_82 : decode cX12_see 82 = .ok (.return_, 1) := by decide +kernel
theorem dX12_walk_0 : decode cX12_walk 0 = .ok (.aload_n 0, 1) := by decide +kernel
theorem dX12_walk_1 : decode cX12_walk 1 = .ok (.iconst 0, 1) := by decide +kernel
theorem dX12_walk_2 : decode cX12_walk 2 = .ok (.putfield 239, 3) := by decide +kernel
theorem dX12_walk_5 : decode cX12_walk 5 = .ok (.aload_n 0, 1) := by decide +kernel
theorem dX12_walk_6 : decode cX12_walk 6 = .ok (.iconst 0, 1) := by decide +kernel
theorem dX12_walk_7 : decode cX12_walk 7 = .ok (.putfield 232, 3) := by decide +kernel
theorem dX12_walk_10 : decode cX12_walk 10 = .ok (.aload_n 0, 1) := by decide +kernel
theorem dX12_walk_11 : decode cX12_walk 11 = .ok (.iconst 0, 1) := by decide +kernel
theorem dX12_walk_12 : decode cX12_walk 12 = .ok (.putfield 235, 3) := by decide +kernel
theorem dX12_walk_15 : decode cX12_walk 15 = .ok (.iconst 0, 1) := by decide +kernel
theorem dX12_walk_16 : decode cX12_walk 16 = .ok (.istore_n 1, 1) := by decide +kernel
theorem dX12_walk_17 : decode cX12_walk 17 = .ok (.iload_n 1, 1) := by decide +kernel
theorem dX12_walk_18 : decode cX12_walk 18 = .ok (.iconst 4, 1) := by decide +kernel
theorem dX12_walk_19 : decode cX12_walk 19 = .ok (.if_icmp .ge 16, 3) := by decide +kernel
theorem dX12_walk_22 : decode cX12_walk 22 = .ok (.aload_n 0, 1) := by decide +kernel
theorem dX12_walk_23 : decode cX12_walk 23 = .ok (.getfield 22, 3) := by decide +kernel
theorem dX12_walk_26 : decode cX12_walk 26 = .ok (.iload_n 1, 1) := by decide +kernel
theorem dX12_walk_27 : decode cX12_walk 27 = .ok (.lconst 0, 1) := by decide +kernel
theorem dX12_walk_28 : decode cX12_walk 28 = .ok (.lastore, 1) := by decide +kernel
theorem dX12_walk_29 : decode cX12_walk 29 = .ok (.iinc 1 1, 3) := by decide +kernel
theorem dX12_walk_32 : decode cX12_walk 32 = .ok (.goto (-15), 3) := by decide +kernel
theorem dX12_walk_35 : decode cX12_walk 35 = .ok (.iconst 0, 1) := by decide +kernel
theorem dX12_walk_36 : decode cX12_walk 36 = .ok (.istore_n 1, 1) := by decide +kernel
theorem dX12_walk_37 : decode cX12_walk 37 = .ok (.aload_n 0, 1) := by decide +kernel
theorem dX12_walk_38 : decode cX12_walk 38 = .ok (.getfield 84, 3) := by decide +kernel
theorem dX12_walk_41 : decode cX12_walk 41 = .ok (.iconst 0, 1) := by decide +kernel
theorem dX12_walk_42 : decode cX12_walk 42 = .ok (.bipush (-9), 2) := by decide +kernel
theorem dX12_walk_44 : decode cX12_walk 44 = .ok (.iastore, 1) := by decide +kernel
theorem dX12_walk_45 : decode cX12_walk 45 = .ok (.aload_n 0, 1) := by decide +kernel
theorem dX12_walk_46 : decode cX12_walk 46 = .ok (.getfield 87, 3) := by decide +kernel
theorem dX12_walk_49 : decode cX12_walk 49 = .ok (.iconst 0, 1) := by decide +kernel
theorem dX12_walk_50 : decode cX12_walk 50 = .ok (.aload_n 0, 1) := by decide +kernel
theorem dX12_walk_51 : decode cX12_walk 51 = .ok (.bipush (-9), 2) := by decide +kernel
theorem dX12_walk_53 : decode cX12_walk 53 = .ok (.iconst 0, 1) := by decide +kernel
theorem dX12_walk_54 : decode cX12_walk 54 = .ok (.invokevirtual 242, 3) := by decide +kernel
theorem dX12_walk_57 : decode cX12_walk 57 = .ok (.iastore, 1) := by decide +kernel
theorem dX12_walk_58 : decode cX12_walk 58 = .ok (.iload_n 1, 1) := by decide +kernel
theorem dX12_walk_59 : decode cX12_walk 59 = .ok (.ifCond .lt 316, 3) := by decide +kernel
theorem dX12_walk_62 : decode cX12_walk 62 = .ok (.aload_n 0, 1) := by decide +kernel
theorem dX12_walk_63 : decode cX12_walk 63 = .ok (.getfield 235, 3) := by decide +kernel
theorem dX12_walk_66 : decode cX12_walk 66 = .ok (.ifCond .ne 309, 3) := by decide +kernel
theorem dX12_walk_69 : decode cX12_walk 69 = .ok (.aload_n 0, 1) := by decide +kernel
theorem dX12_walk_70 : decode cX12_walk 70 = .ok (.getfield 87, 3) := by decide +kernel
theorem dX12_walk_73 : decode cX12_walk 73 = .ok (.iload_n 1, 1) := by decide +kernel
theorem dX12_walk_74 : decode cX12_walk 74 = .ok (.iaload, 1) := by decide +kernel
theorem dX12_walk_75 : decode cX12_walk 75 = .ok (.istore_n 2, 1) := by decide +kernel
theorem dX12_walk_76 : decode cX12_walk 76 = .ok (.iload_n 2, 1) := by decide +kernel
theorem dX12_walk_77 : decode cX12_walk 77 = .ok (.aload_n 0, 1) := by decide +kernel
theorem dX12_walk_78 : decode cX12_walk 78 = .ok (.getfield 170, 3) := by decide +kernel
theorem dX12_walk_81 : decode cX12_walk 81 = .ok (.if_icmp .ge 218, 3) := by decide +kernel
theorem dX12_walk_84 : decode cX12_walk 84 = .ok (.aload_n 0, 1) := by decide +kernel
theorem dX12_walk_85 : decode cX12_walk 85 = .ok (.getfield 87, 3) := by decide +kernel
theorem dX12_walk_88 : decode cX12_walk 88 = .ok (.iload_n 1, 1) := by decide +kernel
theorem dX12_walk_89 : decode cX12_walk 89 = .ok (.aload_n 0, 1) := by decide +kernel
theorem dX12_walk_90 : decode cX12_walk 90 = .ok (.aload_n 0, 1) := by decide +kernel
theorem dX12_walk_91 : decode cX12_walk 91 = .ok (.getfield 84, 3) := by decide +kernel
theorem dX12_walk_94 : decode cX12_walk 94 = .ok (.iload_n 1, 1) := by decide +kernel
theorem dX12_walk_95 : decode cX12_walk 95 = .ok (.iaload, 1) := by decide +kernel
theorem dX12_walk_96 : decode cX12_walk 96 = .ok (.iload_n 2, 1) := by decide +kernel
theorem dX12_walk_97 : decode cX12_walk 97 = .ok (.iconst 1, 1) := by decide +kernel
theorem dX12_walk_98 : decode cX12_walk 98 = .ok (.iadd, 1) := by decide +kernel
theorem dX12_walk_99 : decode cX12_walk 99 = .ok (.invokevirtual 242, 3) := by decide +kernel
theorem dX12_walk_102 : decode cX12_walk 102 = .ok (.iastore, 1) := by decide +kernel
theorem dX12_walk_103 : decode cX12_walk 103 = .ok (.aload_n 0, 1) := by decide +kernel
theorem dX12_walk_104 : decode cX12_walk 104 = .ok (.getfield 26, 3) := by decide +kernel
theorem dX12_walk_107 : decode cX12_walk 107 = .ok (.iload_n 2, 1) := by decide +kernel
theorem dX12_walk_108 : decode cX12_walk 108 = .ok (.iaload, 1) := by decide +kernel
theorem dX12_walk_109 : decode cX12_walk 109 = .ok (.iconst 3, 1) := by decide +kernel
theorem dX12_walk_110 : decode cX12_walk 110 = .ok (.if_icmp .ne 11, 3) := by decide +kernel
theorem dX12_walk_113 : decode cX12_walk 113 = .ok (.aload_n 0, 1) := by decide +kernel
theorem dX12_walk_114 : decode cX12_walk 114 = .ok (.iload_n 2, 1) := by decide +kernel
theorem dX12_walk_115 : decode cX12_walk 115 = .ok (.invokevirtual 246, 3) := by decide +kernel
theorem dX12_walk_118 : decode cX12_walk 118 = .ok (.goto 254, 3) := by decide +kernel
theorem dX12_walk_121 : decode cX12_walk 121 = .ok (.aload_n 0, 1) := by decide +kernel
theorem dX12_walk_122 : decode cX12_walk 122 = .ok (.getfield 26, 3) := by decide +kernel
theorem dX12_walk_125 : decode cX12_walk 125 = .ok (.iload_n 2, 1) := by decide +kernel
theorem dX12_walk_126 : decode cX12_walk 126 = .ok (.iaload, 1) := by decide +kernel
theorem dX12_walk_127 : decode cX12_walk 127 = .ok (.iconst 2, 1) := by decide +kernel
theorem dX12_walk_128 : decode cX12_walk 128 = .ok (.if_icmp .ne 71, 3) := by decide +kernel
theorem dX12_walk_131 : decode cX12_walk 131 = .ok (.aload_n 0, 1) := by decide +kernel
theorem dX12_walk_132 : decode cX12_walk 132 = .ok (.aload_n 0, 1) := by decide +kernel
theorem dX12_walk_133 : decode cX12_walk 133 = .ok (.getfield 35, 3) := by decide +kernel
theorem dX12_walk_136 : decode cX12_walk 136 = .ok (.iload_n 2, 1) := by decide +kernel
theorem dX12_walk_137 : decode cX12_walk 137 = .ok (.iaload, 1) := by decide +kernel
theorem dX12_walk_138 : decode cX12_walk 138 = .ok (.invokevirtual 250, 3) := by decide +kernel
theorem dX12_walk_141 : decode cX12_walk 141 = .ok (.lstore_n 3, 1) := by decide +kernel
theorem dX12_walk_142 : decode cX12_walk 142 = .ok (.aload_n 0, 1) := by decide +kernel
theorem dX12_walk_143 : decode cX12_walk 143 = .ok (.getfield 38, 3) := by decide +kernel
theorem dX12_walk_146 : decode cX12_walk 146 = .ok (.iload_n 2, 1) := by decide +kernel
theorem dX12_walk_147 : decode cX12_walk 147 = .ok (.iaload, 1) := by decide +kernel
theorem dX12_walk_148 : decode cX12_walk 148 = .ok (.ifCond .ne 12, 3) := by decide +kernel
theorem dX12_walk_151 : decode cX12_walk 151 = .ok (.lload_n 3, 1) := by decide +kernel
theorem dX12_walk_152 : decode cX12_walk 152 = .ok (.lconst 0, 1) := by decide +kernel
theorem dX12_walk_153 : decode cX12_walk 153 = .ok (.lcmp, 1) := by decide +kernel
theorem dX12_walk_154 : decode cX12_walk 154 = .ok (.ifCond .lt 42, 3) := by decide +kernel
theorem dX12_walk_157 : decode cX12_walk 157 = .ok (.goto 17, 3) := by decide +kernel
theorem dX12_walk_160 : decode cX12_walk 160 = .ok (.lload_n 3, 1) := by decide +kernel
theorem dX12_walk_161 : decode cX12_walk 161 = .ok (.aload_n 0, 1) := by decide +kernel
theorem dX12_walk_162 : decode cX12_walk 162 = .ok (.getfield 38, 3) := by decide +kernel
theorem dX12_walk_165 : decode cX12_walk 165 = .ok (.iload_n 2, 1) := by decide +kernel
theorem dX12_walk_166 : decode cX12_walk 166 = .ok (.iaload, 1) := by decide +kernel
theorem dX12_walk_167 : decode cX12_walk 167 = .ok (.i2l, 1) := by decide +kernel
theorem dX12_walk_168 : decode cX12_walk 168 = .ok (.lrem, 1) := by decide +kernel
theorem dX12_walk_169 : decode cX12_walk 169 = .ok (.lconst 0, 1) := by decide +kernel
theorem dX12_walk_170 : decode cX12_walk 170 = .ok (.lcmp, 1) := by decide +kernel
theorem dX12_walk_171 : decode cX12_walk 171 = .ok (.ifCond .ne 25, 3) := by decide +kernel
theorem dX12_walk_174 : decode cX12_walk 174 = .ok (.iinc 1 1, 3) := by decide +kernel
theorem dX12_walk_177 : decode cX12_walk 177 = .ok (.aload_n 0, 1) := by decide +kernel
theorem dX12_walk_178 : decode cX12_walk 178 = .ok (.getfield 84, 3) := by decide +kernel
theorem dX12_walk_181 : decode cX12_walk 181 = .ok (.iload_n 1, 1) := by decide +kernel
theorem dX12_walk_182 : decode cX12_walk 182 = .ok (.iload_n 2, 1) := by decide +kernel
theorem dX12_walk_183 : decode cX12_walk 183 = .ok (.iastore, 1) := by decide +kernel
theorem dX12_walk_184 : decode cX12_walk 184 = .ok (.aload_n 0, 1) := by decide +kernel
theorem dX12_walk_185 : decode cX12_walk 185 = .ok (.getfield 87, 3) := by decide +kernel
theorem dX12_walk_188 : decode cX12_walk 188 = .ok (.iload_n 1, 1) := by decide +kernel
theorem dX12_walk_189 : decode cX12_walk 189 = .ok (.aload_n 0, 1) := by decide +kernel
theorem dX12_walk_190 : decode cX12_walk 190 = .ok (.iload_n 2, 1) := by decide +kernel
theorem dX12_walk_191 : decode cX12_walk 191 = .ok (.iconst 0, 1) := by decide +kernel
theorem dX12_walk_192 : decode cX12_walk 192 = .ok (.invokevirtual 242, 3) := by decide +kernel
theorem dX12_walk_195 : decode cX12_walk 195 = .ok (.iastore, 1) := by decide +kernel
theorem dX12_walk_196 : decode cX12_walk 196 = .ok (.goto 176, 3) := by decide +kernel
theorem dX12_walk_199 : decode cX12_walk 199 = .ok (.aload_n 0, 1) := by decide +kernel
theorem dX12_walk_200 : decode cX12_walk 200 = .ok (.aload_n 0, 1) := by decide +kernel
theorem dX12_walk_201 : decode cX12_walk 201 = .ok (.getfield 35, 3) := by decide +kernel
theorem dX12_walk_204 : decode cX12_walk 204 = .ok (.iload_n 2, 1) := by decide +kernel
theorem dX12_walk_205 : decode cX12_walk 205 = .ok (.iaload, 1) := by decide +kernel
theorem dX12_walk_206 : decode cX12_walk 206 = .ok (.invokevirtual 250, 3) := by decide +kernel
theorem dX12_walk_209 : decode cX12_walk 209 = .ok (.lstore_n 3, 1) := by decide +kernel
theorem dX12_walk_210 : decode cX12_walk 210 = .ok (.aload_n 0, 1) := by decide +kernel
theorem dX12_walk_211 : decode cX12_walk 211 = .ok (.getfield 90, 3) := by decide +kernel
theorem dX12_walk_214 : decode cX12_walk 214 = .ok (.iload_n 1, 1) := by decide +kernel
theorem dX12_walk_215 : decode cX12_walk 215 = .ok (.iconst 1, 1) := by decide +kernel
theorem dX12_walk_216 : decode cX12_walk 216 = .ok (.iadd, 1) := by decide +kernel
theorem dX12_walk_217 : decode cX12_walk 217 = .ok (.aload_n 0, 1) := by decide +kernel
theorem dX12_walk_218 : decode cX12_walk 218 = .ok (.aload_n 0, 1) := by decide +kernel
theorem dX12_walk_219 : decode cX12_walk 219 = .ok (.getfield 38, 3) := by decide +kernel
theorem dX12_walk_222 : decode cX12_walk 222 = .ok (.iload_n 2, 1) := by decide +kernel
theorem dX12_walk_223 : decode cX12_walk 223 = .ok (.iaload, 1) := by decide +kernel
theorem dX12_walk_224 : decode cX12_walk 224 = .ok (.invokevirtual 250, 3) := by decide +kernel
theorem dX12_walk_227 : decode cX12_walk 227 = .ok (.lastore, 1) := by decide +kernel
theorem dX12_walk_228 : decode cX12_walk 228 = .ok (.iinc 1 1, 3) := by decide +kernel
theorem dX12_walk_231 : decode cX12_walk 231 = .ok (.aload_n 0, 1) := by decide +kernel
theorem dX12_walk_232 : decode cX12_walk 232 = .ok (.getfield 84, 3) := by decide +kernel
theorem dX12_walk_235 : decode cX12_walk 235 = .ok (.iload_n 1, 1) := by decide +kernel
theorem dX12_walk_236 : decode cX12_walk 236 = .ok (.iload_n 2, 1) := by decide +kernel
theorem dX12_walk_237 : decode cX12_walk 237 = .ok (.iastore, 1) := by decide +kernel
theorem dX12_walk_238 : decode cX12_walk 238 = .ok (.aload_n 0, 1) := by decide +kernel
theorem dX12_walk_239 : decode cX12_walk 239 = .ok (.getfield 22, 3) := by decide +kernel
theorem dX12_walk_242 : decode cX12_walk 242 = .ok (.aload_n 0, 1) := by decide +kernel
theorem dX12_walk_243 : decode cX12_walk 243 = .ok (.getfield 32, 3) := by decide +kernel
theorem dX12_walk_246 : decode cX12_walk 246 = .ok (.iload_n 2, 1) := by decide +kernel
theorem dX12_walk_247 : decode cX12_walk 247 = .ok (.iaload, 1) := by decide +kernel
theorem dX12_walk_248 : decode cX12_walk 248 = .ok (.lload_n 3, 1) := by decide +kernel
theorem dX12_walk_249 : decode cX12_walk 249 = .ok (.lastore, 1) := by decide +kernel
theorem dX12_walk_250 : decode cX12_walk 250 = .ok (.aload_n 0, 1) := by decide +kernel
theorem dX12_walk_251 : decode cX12_walk 251 = .ok (.getfield 87, 3) := by decide +kernel
theorem dX12_walk_254 : decode cX12_walk 254 = .ok (.iload_n 1, 1) := by decide +kernel
theorem dX12_walk_255 : decode cX12_walk 255 = .ok (.aload_n 0, 1) := by decide +kernel
theorem dX12_walk_256 : decode cX12_walk 256 = .ok (.iload_n 1, 1) := by decide +kernel
theorem dX12_walk_257 : decode cX12_walk 257 = .ok (.invokevirtual 254, 3) := by decide +kernel
theorem dX12_walk_260 : decode cX12_walk 260 = .ok (.ifCond .eq 12, 3) := by decide +kernel
theorem dX12_walk_263 : decode cX12_walk 263 = .ok (.aload_n 0, 1) := by decide +kernel
theorem dX12_walk_264 : decode cX12_walk 264 = .ok (.iload_n 2, 1) := by decide +kernel
theorem dX12_walk_265 : decode cX12_walk 265 = .ok (.iconst 0, 1) := by decide +kernel
theorem dX12_walk_266 : decode cX12_walk 266 = .ok (.invokevirtual 242, 3) := by decide +kernel
theorem dX12_walk_269 : decode cX12_walk 269 = .ok (.goto 7, 3) := by decide +kernel
theorem dX12_walk_272 : decode cX12_walk 272 = .ok (.aload_n 0, 1) := by decide +kernel
theorem dX12_walk_273 : decode cX12_walk 273 = .ok (.getfield 170, 3) := by decide +kernel
theorem dX12_walk_276 : decode cX12_walk 276 = .ok (.iastore, 1) := by decide +kernel
theorem dX12_walk_277 : decode cX12_walk 277 = .ok (.lload_n 3, 1) := by decide +kernel
theorem dX12_walk_278 : decode cX12_walk 278 = .ok (.aload_n 0, 1) := by decide +kernel
theorem dX12_walk_279 : decode cX12_walk 279 = .ok (.getfield 90, 3) := by decide +kernel
theorem dX12_walk_282 : decode cX12_walk 282 = .ok (.iload_n 1, 1) := by decide +kernel
theorem dX12_walk_283 : decode cX12_walk 283 = .ok (.laload, 1) := by decide +kernel
theorem dX12_walk_284 : decode cX12_walk 284 = .ok (.lcmp, 1) := by decide +kernel
theorem dX12_walk_285 : decode cX12_walk 285 = .ok (.ifCond .le 11, 3) := by decide +kernel
theorem dX12_walk_288 : decode cX12_walk 288 = .ok (.aload_n 0, 1) := by decide +kernel
theorem dX12_walk_289 : decode cX12_walk 289 = .ok (.iload_n 1, 1) := by decide +kernel
theorem dX12_walk_290 : decode cX12_walk 290 = .ok (.invokevirtual 257, 3) := by decide +kernel
theorem dX12_walk_293 : decode cX12_walk 293 = .ok (.iinc 1 (-1), 3) := by decide +kernel
theorem dX12_walk_296 : decode cX12_walk 296 = .ok (.goto 76, 3) := by decide +kernel
theorem dX12_walk_299 : decode cX12_walk 299 = .ok (.aload_n 0, 1) := by decide +kernel
theorem dX12_walk_300 : decode cX12_walk 300 = .ok (.getfield 84, 3) := by decide +kernel
theorem dX12_walk_303 : decode cX12_walk 303 = .ok (.iload_n 1, 1) := by decide +kernel
theorem dX12_walk_304 : decode cX12_walk 304 = .ok (.iaload, 1) := by decide +kernel
theorem dX12_walk_305 : decode cX12_walk 305 = .ok (.istore_n 3, 1) := by decide +kernel
theorem dX12_walk_306 : decode cX12_walk 306 = .ok (.iload_n 3, 1) := by decide +kernel
theorem dX12_walk_307 : decode cX12_walk 307 = .ok (.bipush (-9), 2) := by decide +kernel
theorem dX12_walk_309 : decode cX12_walk 309 = .ok (.if_icmp .eq 60, 3) := by decide +kernel
theorem dX12_walk_312 : decode cX12_walk 312 = .ok (.aload_n 0, 1) := by decide +kernel
theorem dX12_walk_313 : decode cX12_walk 313 = .ok (.iload_n 3, 1) := by decide +kernel
theorem dX12_walk_314 : decode cX12_walk 314 = .ok (.invokevirtual 173, 3) := by decide +kernel
theorem dX12_walk_317 : decode cX12_walk 317 = .ok (.ifCond .eq 52, 3) := by decide +kernel
theorem dX12_walk_320 : decode cX12_walk 320 = .ok (.aload_n 0, 1) := by decide +kernel
theorem dX12_walk_321 : decode cX12_walk 321 = .ok (.getfield 22, 3) := by decide +kernel
theorem dX12_walk_324 : decode cX12_walk 324 = .ok (.aload_n 0, 1) := by decide +kernel
theorem dX12_walk_325 : decode cX12_walk 325 = .ok (.getfield 32, 3) := by decide +kernel
theorem dX12_walk_328 : decode cX12_walk 328 = .ok (.iload_n 3, 1) := by decide +kernel
theorem dX12_walk_329 : decode cX12_walk 329 = .ok (.iaload, 1) := by decide +kernel
theorem dX12_walk_330 : decode cX12_walk 330 = .ok (.dup2, 1) := by decide +kernel
theorem dX12_walk_331 : decode cX12_walk 331 = .ok (.laload, 1) := by decide +kernel
theorem dX12_walk_332 : decode cX12_walk 332 = .ok (.lconst 1, 1) := by decide +kernel
theorem dX12_walk_333 : decode cX12_walk 333 = .ok (.ladd, 1) := by decide +kernel
theorem dX12_walk_334 : decode cX12_walk 334 = .ok (.lastore, 1) := by decide +kernel
theorem dX12_walk_335 : decode cX12_walk 335 = .ok (.aload_n 0, 1) := by decide +kernel
theorem dX12_walk_336 : decode cX12_walk 336 = .ok (.iload_n 1, 1) := by decide +kernel
theorem dX12_walk_337 : decode cX12_walk 337 = .ok (.invokevirtual 254, 3) := by decide +kernel
theorem dX12_walk_340 : decode cX12_walk 340 = .ok (.ifCond .eq 18, 3) := by decide +kernel
theorem dX12_walk_343 : decode cX12_walk 343 = .ok (.aload_n 0, 1) := by decide +kernel
theorem dX12_walk_344 : decode cX12_walk 344 = .ok (.getfield 87, 3) := by decide +kernel
theorem dX12_walk_347 : decode cX12_walk 347 = .ok (.iload_n 1, 1) := by decide +kernel
theorem dX12_walk_348 : decode cX12_walk 348 = .ok (.aload_n 0, 1) := by decide +kernel
theorem dX12_walk_349 : decode cX12_walk 349 = .ok (.iload_n 3, 1) := by decide +kernel
theorem dX12_walk_350 : decode cX12_walk 350 = .ok (.iconst 0, 1) := by decide +kernel
theorem dX12_walk_351 : decode cX12_walk 351 = .ok (.invokevirtual 242, 3) := by decide +kernel
theorem dX12_walk_354 : decode cX12_walk 354 = .ok (.iastore, 1) := by decide +kernel
theorem dX12_walk_355 : decode cX12_walk 355 = .ok (.goto 17, 3) := by decide +kernel
theorem dX12_walk_358 : decode cX12_walk 358 = .ok (.aload_n 0, 1) := by decide +kernel
theorem dX12_walk_359 : decode cX12_walk 359 = .ok (.iload_n 1, 1) := by decide +kernel
theorem dX12_walk_360 : decode cX12_walk 360 = .ok (.invokevirtual 257, 3) := by decide +kernel
theorem dX12_walk_363 : decode cX12_walk 363 = .ok (.iinc 1 (-1), 3) := by decide +kernel
theorem dX12_walk_366 : decode cX12_walk 366 = .ok (.goto 6, 3) := by decide +kernel
theorem dX12_walk_369 : decode cX12_walk 369 = .ok (.iinc 1 (-1), 3) := by decide +kernel
theorem dX12_walk_372 : decode cX12_walk 372 = .ok (.goto (-314), 3) := by decide +kernel
theorem dX12_walk_375 : decode cX12_walk 375 = .ok (.aload_n 0, 1) := by decide +kernel
theorem dX12_walk_376 : decode cX12_walk 376 = .ok (.getfield 235, 3) := by decide +kernel
theorem dX12_walk_379 : decode cX12_walk 379 = .ok (.ireturn, 1) := by decide +kernel
theorem dX12_closeLoop_0 : decode cX12_closeLoop 0 = .ok (.aload_n 0, 1) := by decide +kernel
theorem dX12_closeLoop_1 : decode cX12_closeLoop 1 = .ok (.getfield 22, 3) := by decide +kernel
theorem dX12_closeLoop_4 : decode cX12_closeLoop 4 = .ok (.aload_n 0, 1) := by decide +kernel
theorem dX12_closeLoop_5 : decode cX12_closeLoop 5 = .ok (.getfield 32, 3) := by decide +kernel
theorem dX12_closeLoop_8 : decode cX12_closeLoop 8 = .ok (.aload_n 0, 1) := by decide +kernel
theorem dX12_closeLoop_9 : decode cX12_closeLoop 9 = .ok (.getfield 84, 3) := by decide +kernel
theorem dX12_closeLoop_12 : decode cX12_closeLoop 12 = .ok (.iload_n 1, 1) := by decide +kernel
theorem dX12_closeLoop_13 : decode cX12_closeLoop 13 = .ok (.iaload, 1) := by decide +kernel
theorem dX12_closeLoop_14 : decode cX12_closeLoop 14 = .ok (.iaload, 1) := by decide +kernel
theorem dX12_closeLoop_15 : decode cX12_closeLoop 15 = .ok (.lconst 0, 1) := by decide +kernel
theorem dX12_closeLoop_16 : decode cX12_closeLoop 16 = .ok (.lastore, 1) := by decide +kernel
theorem dX12_closeLoop_17 : decode cX12_closeLoop 17 = .ok (.return_, 1) := by decide +kernel
theorem dX12_lettersOf_0 : decode cX12_lettersOf 0 = .ok (.iconst 0, 1) := by decide +kernel
theorem dX12_lettersOf_1 : decode cX12_lettersOf 1 = .ok (.istore_n 2, 1) := by decide +kernel
theorem dX12_lettersOf_2 : decode cX12_lettersOf 2 = .ok (.iload_n 2, 1) := by decide +kernel
theorem dX12_lettersOf_3 : decode cX12_lettersOf 3 = .ok (.iconst 4, 1) := by decide +kernel
theorem dX12_lettersOf_4 : decode cX12_lettersOf 4 = .ok (.if_icmp .ge 25, 3) := by decide +kernel
theorem dX12_lettersOf_7 : decode cX12_lettersOf 7 = .ok (.aload_n 0, 1) := by decide +kernel
theorem dX12_lettersOf_8 : decode cX12_lettersOf 8 = .ok (.getfield 22, 3) := by decide +kernel
theorem dX12_lettersOf_11 : decode cX12_lettersOf 11 = .ok (.iload_n 2, 1) := by decide +kernel
theorem dX12_lettersOf_12 : decode cX12_lettersOf 12 = .ok (.aload_n 0, 1) := by decide +kernel
theorem dX12_lettersOf_13 : decode cX12_lettersOf 13 = .ok (.getfield 81, 3) := by decide +kernel
theorem dX12_lettersOf_16 : decode cX12_lettersOf 16 = .ok (.iconst 4, 1) := by decide +kernel
theorem dX12_lettersOf_17 : decode cX12_lettersOf 17 = .ok (.iload_n 1, 1) := by decide +kernel
theorem dX12_lettersOf_18 : decode cX12_lettersOf 18 = .ok (.imul, 1) := by decide +kernel
theorem dX12_lettersOf_19 : decode cX12_lettersOf 19 = .ok (.iload_n 2, 1) := by decide +kernel
theorem dX12_lettersOf_20 : decode cX12_lettersOf 20 = .ok (.iadd, 1) := by decide +kernel
theorem dX12_lettersOf_21 : decode cX12_lettersOf 21 = .ok (.laload, 1) := by decide +kernel
theorem dX12_lettersOf_22 : decode cX12_lettersOf 22 = .ok (.lastore, 1) := by decide +kernel
theorem dX12_lettersOf_23 : decode cX12_lettersOf 23 = .ok (.iinc 2 1, 3) := by decide +kernel
theorem dX12_lettersOf_26 : decode cX12_lettersOf 26 = .ok (.goto (-24), 3) := by decide +kernel
theorem dX12_lettersOf_29 : decode cX12_lettersOf 29 = .ok (.return_, 1) := by decide +kernel
theorem dX12_hasAim_0 : decode cX12_hasAim 0 = .ok (.aload_n 0, 1) := by decide +kernel
theorem dX12_hasAim_1 : decode cX12_hasAim 1 = .ok (.getfield 41, 3) := by decide +kernel
theorem dX12_hasAim_4 : decode cX12_hasAim 4 = .ok (.iconst 3, 1) := by decide +kernel
theorem dX12_hasAim_5 : decode cX12_hasAim 5 = .ok (.aload_n 0, 1) := by decide +kernel
theorem dX12_hasAim_6 : decode cX12_hasAim 6 = .ok (.getfield 78, 3) := by decide +kernel
theorem dX12_hasAim_9 : decode cX12_hasAim 9 = .ok (.iload_n 1, 1) := by decide +kernel
theorem dX12_hasAim_10 : decode cX12_hasAim 10 = .ok (.iaload, 1) := by decide +kernel
theorem dX12_hasAim_11 : decode cX12_hasAim 11 = .ok (.imul, 1) := by decide +kernel
theorem dX12_hasAim_12 : decode cX12_hasAim 12 = .ok (.iload_n 2, 1) := by decide +kernel
theorem dX12_hasAim_13 : decode cX12_hasAim 13 = .ok (.iadd, 1) := by decide +kernel
theorem dX12_hasAim_14 : decode cX12_hasAim 14 = .ok (.iaload, 1) := by decide +kernel
theorem dX12_hasAim_15 : decode cX12_hasAim 15 = .ok (.bipush (-9), 2) := by decide +kernel
theorem dX12_hasAim_17 : decode cX12_hasAim 17 = .ok (.if_icmp .eq 7, 3) := by decide +kernel
theorem dX12_hasAim_20 : decode cX12_hasAim 20 = .ok (.iconst 1, 1) := by decide +kernel
theorem dX12_hasAim_21 : decode cX12_hasAim 21 = .ok (.goto 4, 3) := by decide +kernel
theorem dX12_hasAim_24 : decode cX12_hasAim 24 = .ok (.iconst 0, 1) := by decide +kernel
theorem dX12_hasAim_25 : decode cX12_hasAim 25 = .ok (.ireturn, 1) := by decide +kernel
theorem dX12_touchAll_0 : decode cX12_touchAll 0 = .ok (.iconst 0, 1) := by decide +kernel
theorem dX12_touchAll_1 : decode cX12_touchAll 1 = .ok (.istore_n 1, 1) := by decide +kernel
theorem dX12_touchAll_2 : decode cX12_touchAll 2 = .ok (.iload_n 1, 1) := by decide +kernel
theorem dX12_touchAll_3 : decode cX12_touchAll 3 = .ok (.aload_n 0, 1) := by decide +kernel
theorem dX12_touchAll_4 : decode cX12_touchAll 4 = .ok (.getfield 239, 3) := by decide +kernel
theorem dX12_touchAll_7 : decode cX12_touchAll 7 = .ok (.if_icmp .ge 94, 3) := by decide +kernel
theorem dX12_touchAll_10 : decode cX12_touchAll 10 = .ok (.aload_n 0, 1) := by decide +kernel
theorem dX12_touchAll_11 : decode cX12_touchAll 11 = .ok (.iload_n 1, 1) := by decide +kernel
theorem dX12_touchAll_12 : decode cX12_touchAll 12 = .ok (.invokevirtual 260, 3) := by decide +kernel
theorem dX12_touchAll_15 : decode cX12_touchAll 15 = .ok (.iconst 0, 1) := by decide +kernel
theorem dX12_touchAll_16 : decode cX12_touchAll 16 = .ok (.istore_n 2, 1) := by decide +kernel
theorem dX12_touchAll_17 : decode cX12_touchAll 17 = .ok (.iload_n 2, 1) := by decide +kernel
theorem dX12_touchAll_18 : decode cX12_touchAll 18 = .ok (.iconst 3, 1) := by decide +kernel
theorem dX12_touchAll_19 : decode cX12_touchAll 19 = .ok (.if_icmp .ge 76, 3) := by decide +kernel
theorem dX12_touchAll_22 : decode cX12_touchAll 22 = .ok (.aload_n 0, 1) := by decide +kernel
theorem dX12_touchAll_23 : decode cX12_touchAll 23 = .ok (.iload_n 1, 1) := by decide +kernel
theorem dX12_touchAll_24 : decode cX12_touchAll 24 = .ok (.iload_n 2, 1) := by decide +kernel
theorem dX12_touchAll_25 : decode cX12_touchAll 25 = .ok (.invokevirtual 263, 3) := by decide +kernel
theorem dX12_touchAll_28 : decode cX12_touchAll 28 = .ok (.ifCond .eq 61, 3) := by decide +kernel
theorem dX12_touchAll_31 : decode cX12_touchAll 31 = .ok (.aload_n 0, 1) := by decide +kernel
theorem dX12_touchAll_32 : decode cX12_touchAll 32 = .ok (.getfield 93, 3) := by decide +kernel
theorem dX12_touchAll_35 : decode cX12_touchAll 35 = .ok (.iconst 3, 1) := by decide +kernel
theorem dX12_touchAll_36 : decode cX12_touchAll 36 = .ok (.iload_n 1, 1) := by decide +kernel
theorem dX12_touchAll_37 : decode cX12_touchAll 37 = .ok (.imul, 1) := by decide +kernel
theorem dX12_touchAll_38 : decode cX12_touchAll 38 = .ok (.iload_n 2, 1) := by decide +kernel
theorem dX12_touchAll_39 : decode cX12_touchAll 39 = .ok (.iadd, 1) := by decide +kernel
theorem dX12_touchAll_40 : decode cX12_touchAll 40 = .ok (.aload_n 0, 1) := by decide +kernel
theorem dX12_touchAll_41 : decode cX12_touchAll 41 = .ok (.aload_n 0, 1) := by decide +kernel
theorem dX12_touchAll_42 : decode cX12_touchAll 42 = .ok (.getfield 44, 3) := by decide +kernel
theorem dX12_touchAll_45 : decode cX12_touchAll 45 = .ok (.iconst 3, 1) := by decide +kernel
theorem dX12_touchAll_46 : decode cX12_touchAll 46 = .ok (.aload_n 0, 1) := by decide +kernel
theorem dX12_touchAll_47 : decode cX12_touchAll 47 = .ok (.getfield 78, 3) := by decide +kernel
theorem dX12_touchAll_50 : decode cX12_touchAll 50 = .ok (.iload_n 1, 1) := by decide +kernel
theorem dX12_touchAll_51 : decode cX12_touchAll 51 = .ok (.iaload, 1) := by decide +kernel
theorem dX12_touchAll_52 : decode cX12_touchAll 52 = .ok (.imul, 1) := by decide +kernel
theorem dX12_touchAll_53 : decode cX12_touchAll 53 = .ok (.iload_n 2, 1) := by decide +kernel
theorem dX12_touchAll_54 : decode cX12_touchAll 54 = .ok (.iadd, 1) := by decide +kernel
theorem dX12_touchAll_55 : decode cX12_touchAll 55 = .ok (.iaload, 1) := by decide +kernel
theorem dX12_touchAll_56 : decode cX12_touchAll 56 = .ok (.invokevirtual 250, 3) := by decide +kernel
theorem dX12_touchAll_59 : decode cX12_touchAll 59 = .ok (.lastore, 1) := by decide +kernel
theorem dX12_touchAll_60 : decode cX12_touchAll 60 = .ok (.aload_n 0, 1) := by decide +kernel
theorem dX12_touchAll_61 : decode cX12_touchAll 61 = .ok (.getfield 96, 3) := by decide +kernel
theorem dX12_touchAll_64 : decode cX12_touchAll 64 = .ok (.iconst 3, 1) := by decide +kernel
theorem dX12_touchAll_65 : decode cX12_touchAll 65 = .ok (.iload_n 1, 1) := by decide +kernel
theorem dX12_touchAll_66 : decode cX12_touchAll 66 = .ok (.imul, 1) := by decide +kernel
theorem dX12_touchAll_67 : decode cX12_touchAll 67 = .ok (.iload_n 2, 1) := by decide +kernel
theorem dX12_touchAll_68 : decode cX12_touchAll 68 = .ok (.iadd, 1) := by decide +kernel
theorem dX12_touchAll_69 : decode cX12_touchAll 69 = .ok (.aload_n 0, 1) := by decide +kernel
theorem dX12_touchAll_70 : decode cX12_touchAll 70 = .ok (.aload_n 0, 1) := by decide +kernel
theorem dX12_touchAll_71 : decode cX12_touchAll 71 = .ok (.getfield 47, 3) := by decide +kernel
theorem dX12_touchAll_74 : decode cX12_touchAll 74 = .ok (.iconst 3, 1) := by decide +kernel
theorem dX12_touchAll_75 : decode cX12_touchAll 75 = .ok (.aload_n 0, 1) := by decide +kernel
theorem dX12_touchAll_76 : decode cX12_touchAll 76 = .ok (.getfield 78, 3) := by decide +kernel
theorem dX12_touchAll_79 : decode cX12_touchAll 79 = .ok (.iload_n 1, 1) := by decide +kernel
theorem dX12_touchAll_80 : decode cX12_touchAll 80 = .ok (.iaload, 1) := by decide +kernel
theorem dX12_touchAll_81 : decode cX12_touchAll 81 = .ok (.imul, 1) := by decide +kernel
theorem dX12_touchAll_82 : decode cX12_touchAll 82 = .ok (.iload_n 2, 1) := by decide +kernel
theorem dX12_touchAll_83 : decode cX12_touchAll 83 = .ok (.iadd, 1) := by decide +kernel
theorem dX12_touchAll_84 : decode cX12_touchAll 84 = .ok (.iaload, 1) := by decide +kernel
theorem dX12_touchAll_85 : decode cX12_touchAll 85 = .ok (.invokevirtual 250, 3) := by decide +kernel
theorem dX12_touchAll_88 : decode cX12_touchAll 88 = .ok (.lastore, 1) := by decide +kernel
theorem dX12_touchAll_89 : decode cX12_touchAll 89 = .ok (.iinc 2 1, 3) := by decide +kernel
theorem dX12_touchAll_92 : decode cX12_touchAll 92 = .ok (.goto (-75), 3) := by decide +kernel
theorem dX12_touchAll_95 : decode cX12_touchAll 95 = .ok (.iinc 1 1, 3) := by decide +kernel
theorem dX12_touchAll_98 : decode cX12_touchAll 98 = .ok (.goto (-96), 3) := by decide +kernel
theorem dX12_touchAll_101 : decode cX12_touchAll 101 = .ok (.return_, 1) := by decide +kernel
theorem dX12_isOne_0 : decode cX12_isOne 0 = .ok (.aload_n 0, 1) := by decide +kernel
theorem dX12_isOne_1 : decode cX12_isOne 1 = .ok (.iload_n 1, 1) := by decide +kernel
theorem dX12_isOne_2 : decode cX12_isOne 2 = .ok (.iload_n 2, 1) := by decide +kernel
theorem dX12_isOne_3 : decode cX12_isOne 3 = .ok (.invokevirtual 263, 3) := by decide +kernel
theorem dX12_isOne_6 : decode cX12_isOne 6 = .ok (.ifCond .eq 101, 3) := by decide +kernel
theorem dX12_isOne_9 : decode cX12_isOne 9 = .ok (.aload_n 0, 1) := by decide +kernel
theorem dX12_isOne_10 : decode cX12_isOne 10 = .ok (.iload_n 3, 1) := by decide +kernel
theorem dX12_isOne_11 : decode cX12_isOne 11 = .ok (.iload 4, 2) := by decide +kernel
theorem dX12_isOne_13 : decode cX12_isOne 13 = .ok (.invokevirtual 263, 3) := by decide +kernel
theorem dX12_isOne_16 : decode cX12_isOne 16 = .ok (.ifCond .eq 91, 3) := by decide +kernel
theorem dX12_isOne_19 : decode cX12_isOne 19 = .ok (.aload_n 0, 1) := by decide +kernel
theorem dX12_isOne_20 : decode cX12_isOne 20 = .ok (.getfield 41, 3) := by decide +kernel
theorem dX12_isOne_23 : decode cX12_isOne 23 = .ok (.iconst 3, 1) := by decide +kernel
theorem dX12_isOne_24 : decode cX12_isOne 24 = .ok (.aload_n 0, 1) := by decide +kernel
theorem dX12_isOne_25 : decode cX12_isOne 25 = .ok (.getfield 78, 3) := by decide +kernel
theorem dX12_isOne_28 : decode cX12_isOne 28 = .ok (.iload_n 1, 1) := by decide +kernel
theorem dX12_isOne_29 : decode cX12_isOne 29 = .ok (.iaload, 1) := by decide +kernel
theorem dX12_isOne_30 : decode cX12_isOne 30 = .ok (.imul, 1) := by decide +kernel
theorem dX12_isOne_31 : decode cX12_isOne 31 = .ok (.iload_n 2, 1) := by decide +kernel
theorem dX12_isOne_32 : decode cX12_isOne 32 = .ok (.iadd, 1) := by decide +kernel
theorem dX12_isOne_33 : decode cX12_isOne 33 = .ok (.iaload, 1) := by decide +kernel
theorem dX12_isOne_34 : decode cX12_isOne 34 = .ok (.aload_n 0, 1) := by decide +kernel
theorem dX12_isOne_35 : decode cX12_isOne 35 = .ok (.getfield 41, 3) := by decide +kernel
theorem dX12_isOne_38 : decode cX12_isOne 38 = .ok (.iconst 3, 1) := by decide +kernel
theorem dX12_isOne_39 : decode cX12_isOne 39 = .ok (.aload_n 0, 1) := by decide +kernel
theorem dX12_isOne_40 : decode cX12_isOne 40 = .ok (.getfield 78, 3) := by decide +kernel
theorem dX12_isOne_43 : decode cX12_isOne 43 = .ok (.iload_n 3, 1) := by decide +kernel
theorem dX12_isOne_44 : decode cX12_isOne 44 = .ok (.iaload, 1) := by decide +kernel
theorem dX12_isOne_45 : decode cX12_isOne 45 = .ok (.imul, 1) := by decide +kernel
theorem dX12_isOne_46 : decode cX12_isOne 46 = .ok (.iload 4, 2) := by decide +kernel
theorem dX12_isOne_48 : decode cX12_isOne 48 = .ok (.iadd, 1) := by decide +kernel
theorem dX12_isOne_49 : decode cX12_isOne 49 = .ok (.iaload, 1) := by decide +kernel
theorem dX12_isOne_50 : decode cX12_isOne 50 = .ok (.if_icmp .ne 57, 3) := by decide +kernel
theorem dX12_isOne_53 : decode cX12_isOne 53 = .ok (.aload_n 0, 1) := by decide +kernel
theorem dX12_isOne_54 : decode cX12_isOne 54 = .ok (.getfield 93, 3) := by decide +kernel
theorem dX12_isOne_57 : decode cX12_isOne 57 = .ok (.iconst 3, 1) := by decide +kernel
theorem dX12_isOne_58 : decode cX12_isOne 58 = .ok (.iload_n 1, 1) := by decide +kernel
theorem dX12_isOne_59 : decode cX12_isOne 59 = .ok (.imul, 1) := by decide +kernel
theorem dX12_isOne_60 : decode cX12_isOne 60 = .ok (.iload_n 2, 1) := by decide +kernel
theorem dX12_isOne_61 : decode cX12_isOne 61 = .ok (.iadd, 1) := by decide +kernel
theorem dX12_isOne_62 : decode cX12_isOne 62 = .ok (.laload, 1) := by decide +kernel
theorem dX12_isOne_63 : decode cX12_isOne 63 = .ok (.aload_n 0, 1) := by decide +kernel
theorem dX12_isOne_64 : decode cX12_isOne 64 = .ok (.getfield 93, 3) := by decide +kernel
theorem dX12_isOne_67 : decode cX12_isOne 67 = .ok (.iconst 3, 1) := by decide +kernel
theorem dX12_isOne_68 : decode cX12_isOne 68 = .ok (.iload_n 3, 1) := by decide +kernel
theorem dX12_isOne_69 : decode cX12_isOne 69 = .ok (.imul, 1) := by decide +kernel
theorem dX12_isOne_70 : decode cX12_isOne 70 = .ok (.iload 4, 2) := by decide +kernel
theorem dX12_isOne_72 : decode cX12_isOne 72 = .ok (.iadd, 1) := by decide +kernel
theorem dX12_isOne_73 : decode cX12_isOne 73 = .ok (.laload, 1) := by decide +kernel
theorem dX12_isOne_74 : decode cX12_isOne 74 = .ok (.lcmp, 1) := by decide +kernel
theorem dX12_isOne_75 : decode cX12_isOne 75 = .ok (.ifCond .ne 32, 3) := by decide +kernel
theorem dX12_isOne_78 : decode cX12_isOne 78 = .ok (.aload_n 0, 1) := by decide +kernel
theorem dX12_isOne_79 : decode cX12_isOne 79 = .ok (.getfield 96, 3) := by decide +kernel
theorem dX12_isOne_82 : decode cX12_isOne 82 = .ok (.iconst 3, 1) := by decide +kernel
theorem dX12_isOne_83 : decode cX12_isOne 83 = .ok (.iload_n 1, 1) := by decide +kernel
theorem dX12_isOne_84 : decode cX12_isOne 84 = .ok (.imul, 1) := by decide +kernel
theorem dX12_isOne_85 : decode cX12_isOne 85 = .ok (.iload_n 2, 1) := by decide +kernel
theorem dX12_isOne_86 : decode cX12_isOne 86 = .ok (.iadd, 1) := by decide +kernel
theorem dX12_isOne_87 : decode cX12_isOne 87 = .ok (.laload, 1) := by decide +kernel
theorem dX12_isOne_88 : decode cX12_isOne 88 = .ok (.aload_n 0, 1) := by decide +kernel
theorem dX12_isOne_89 : decode cX12_isOne 89 = .ok (.getfield 96, 3) := by decide +kernel
theorem dX12_isOne_92 : decode cX12_isOne 92 = .ok (.iconst 3, 1) := by decide +kernel
theorem dX12_isOne_93 : decode cX12_isOne 93 = .ok (.iload_n 3, 1) := by decide +kernel
theorem dX12_isOne_94 : decode cX12_isOne 94 = .ok (.imul, 1) := by decide +kernel
theorem dX12_isOne_95 : decode cX12_isOne 95 = .ok (.iload 4, 2) := by decide +kernel
theorem dX12_isOne_97 : decode cX12_isOne 97 = .ok (.iadd, 1) := by decide +kernel
theorem dX12_isOne_98 : decode cX12_isOne 98 = .ok (.laload, 1) := by decide +kernel
theorem dX12_isOne_99 : decode cX12_isOne 99 = .ok (.lcmp, 1) := by decide +kernel
theorem dX12_isOne_100 : decode cX12_isOne 100 = .ok (.ifCond .ne 7, 3) := by decide +kernel
theorem dX12_isOne_103 : decode cX12_isOne 103 = .ok (.iconst 1, 1) := by decide +kernel
theorem dX12_isOne_104 : decode cX12_isOne 104 = .ok (.goto 4, 3) := by decide +kernel
theorem dX12_isOne_107 : decode cX12_isOne 107 = .ok (.iconst 0, 1) := by decide +kernel
theorem dX12_isOne_108 : decode cX12_isOne 108 = .ok (.ireturn, 1) := by decide +kernel
theorem dX12_isNeed_0 : decode cX12_isNeed 0 = .ok (.iload_n 3, 1) := by decide +kernel
theorem dX12_isNeed_1 : decode cX12_isNeed 1 = .ok (.iconst 2, 1) := by decide +kernel
theorem dX12_isNeed_2 : decode cX12_isNeed 2 = .ok (.if_icmp .ne 12, 3) := by decide +kernel
theorem dX12_isNeed_5 : decode cX12_isNeed 5 = .ok (.aload_n 0, 1) := by decide +kernel
theorem dX12_isNeed_6 : decode cX12_isNeed 6 = .ok (.iload_n 1, 1) := by decide +kernel
theorem dX12_isNeed_7 : decode cX12_isNeed 7 = .ok (.iconst 0, 1) := by decide +kernel
theorem dX12_isNeed_8 : decode cX12_isNeed 8 = .ok (.iload_n 2, 1) := by decide +kernel
theorem dX12_isNeed_9 : decode cX12_isNeed 9 = .ok (.iconst 0, 1) := by decide +kernel
theorem dX12_isNeed_10 : decode cX12_isNeed 10 = .ok (.invokevirtual 266, 3) := by decide +kernel
theorem dX12_isNeed_13 : decode cX12_isNeed 13 = .ok (.ireturn, 1) := by decide +kernel
theorem dX12_isNeed_14 : decode cX12_isNeed 14 = .ok (.iload_n 3, 1) := by decide +kernel
theorem dX12_isNeed_15 : decode cX12_isNeed 15 = .ok (.ifCond .ne 33, 3) := by decide +kernel
theorem dX12_isNeed_18 : decode cX12_isNeed 18 = .ok (.aload_n 0, 1) := by decide +kernel
theorem dX12_isNeed_19 : decode cX12_isNeed 19 = .ok (.iload_n 1, 1) := by decide +kernel
theorem dX12_isNeed_20 : decode cX12_isNeed 20 = .ok (.iconst 0, 1) := by decide +kernel
theorem dX12_isNeed_21 : decode cX12_isNeed 21 = .ok (.iload_n 2, 1) := by decide +kernel
theorem dX12_isNeed_22 : decode cX12_isNeed 22 = .ok (.iconst 1, 1) := by decide +kernel
theorem dX12_isNeed_23 : decode cX12_isNeed 23 = .ok (.invokevirtual 266, 3) := by decide +kernel
theorem dX12_isNeed_26 : decode cX12_isNeed 26 = .ok (.ifCond .ne 14, 3) := by decide +kernel
theorem dX12_isNeed_29 : decode cX12_isNeed 29 = .ok (.aload_n 0, 1) := by decide +kernel
theorem dX12_isNeed_30 : decode cX12_isNeed 30 = .ok (.iload_n 1, 1) := by decide +kernel
theorem dX12_isNeed_31 : decode cX12_isNeed 31 = .ok (.iconst 0, 1) := by decide +kernel
theorem dX12_isNeed_32 : decode cX12_isNeed 32 = .ok (.iload_n 2, 1) := by decide +kernel
theorem dX12_isNeed_33 : decode cX12_isNeed 33 = .ok (.iconst 2, 1) := by decide +kernel
theorem dX12_isNeed_34 : decode cX12_isNeed 34 = .ok (.invokevirtual 266, 3) := by decide +kernel
theorem dX12_isNeed_37 : decode cX12_isNeed 37 = .ok (.ifCond .eq 7, 3) := by decide +kernel
theorem dX12_isNeed_40 : decode cX12_isNeed 40 = .ok (.iconst 1, 1) := by decide +kernel
theorem dX12_isNeed_41 : decode cX12_isNeed 41 = .ok (.goto 34, 3) := by decide +kernel
theorem dX12_isNeed_44 : decode cX12_isNeed 44 = .ok (.iconst 0, 1) := by decide +kernel
theorem dX12_isNeed_45 : decode cX12_isNeed 45 = .ok (.goto 30, 3) := by decide +kernel
theorem dX12_isNeed_48 : decode cX12_isNeed 48 = .ok (.aload_n 0, 1) := by decide +kernel
theorem dX12_isNeed_49 : decode cX12_isNeed 49 = .ok (.iload_n 1, 1) := by decide +kernel
theorem dX12_isNeed_50 : decode cX12_isNeed 50 = .ok (.iconst 1, 1) := by decide +kernel
theorem dX12_isNeed_51 : decode cX12_isNeed 51 = .ok (.iload_n 2, 1) := by decide +kernel
theorem dX12_isNeed_52 : decode cX12_isNeed 52 = .ok (.iconst 0, 1) := by decide +kernel
theorem dX12_isNeed_53 : decode cX12_isNeed 53 = .ok (.invokevirtual 266, 3) := by decide +kernel
theorem dX12_isNeed_56 : decode cX12_isNeed 56 = .ok (.ifCond .ne 14, 3) := by decide +kernel
theorem dX12_isNeed_59 : decode cX12_isNeed 59 = .ok (.aload_n 0, 1) := by decide +kernel
theorem dX12_isNeed_60 : decode cX12_isNeed 60 = .ok (.iload_n 1, 1) := by decide +kernel
theorem dX12_isNeed_61 : decode cX12_isNeed 61 = .ok (.iconst 2, 1) := by decide +kernel
theorem dX12_isNeed_62 : decode cX12_isNeed 62 = .ok (.iload_n 2, 1) := by decide +kernel
theorem dX12_isNeed_63 : decode cX12_isNeed 63 = .ok (.iconst 0, 1) := by decide +kernel
theorem dX12_isNeed_64 : decode cX12_isNeed 64 = .ok (.invokevirtual 266, 3) := by decide +kernel
theorem dX12_isNeed_67 : decode cX12_isNeed 67 = .ok (.ifCond .eq 7, 3) := by decide +kernel
theorem dX12_isNeed_70 : decode cX12_isNeed 70 = .ok (.iconst 1, 1) := by decide +kernel
theorem dX12_isNeed_71 : decode cX12_isNeed 71 = .ok (.goto 4, 3) := by decide +kernel
theorem dX12_isNeed_74 : decode cX12_isNeed 74 = .ok (.iconst 0, 1) := by decide +kernel
theorem dX12_isNeed_75 : decode cX12_isNeed 75 = .ok (.ireturn, 1) := by decide +kernel
theorem dX12_loopOf_0 : decode cX12_loopOf 0 = .ok (.aload_n 0, 1) := by decide +kernel
theorem dX12_loopOf_1 : decode cX12_loopOf 1 = .ok (.getfield 29, 3) := by decide +kernel
theorem dX12_loopOf_4 : decode cX12_loopOf 4 = .ok (.iload_n 1, 1) := by decide +kernel
theorem dX12_loopOf_5 : decode cX12_loopOf 5 = .ok (.iaload, 1) := by decide +kernel
theorem dX12_loopOf_6 : decode cX12_loopOf 6 = .ok (.istore_n 3, 1) := by decide +kernel
theorem dX12_loopOf_7 : decode cX12_loopOf 7 = .ok (.iload_n 3, 1) := by decide +kernel
theorem dX12_loopOf_8 : decode cX12_loopOf 8 = .ok (.bipush (-9), 2) := by decide +kernel
theorem dX12_loopOf_10 : decode cX12_loopOf 10 = .ok (.if_icmp .eq 31, 3) := by decide +kernel
theorem dX12_loopOf_13 : decode cX12_loopOf 13 = .ok (.aload_n 0, 1) := by decide +kernel
theorem dX12_loopOf_14 : decode cX12_loopOf 14 = .ok (.iload_n 3, 1) := by decide +kernel
theorem dX12_loopOf_15 : decode cX12_loopOf 15 = .ok (.invokevirtual 173, 3) := by decide +kernel
theorem dX12_loopOf_18 : decode cX12_loopOf 18 = .ok (.ifCond .eq 13, 3) := by decide +kernel
theorem dX12_loopOf_21 : decode cX12_loopOf 21 = .ok (.aload_n 0, 1) := by decide +kernel
theorem dX12_loopOf_22 : decode cX12_loopOf 22 = .ok (.getfield 32, 3) := by decide +kernel
theorem dX12_loopOf_25 : decode cX12_loopOf 25 = .ok (.iload_n 3, 1) := by decide +kernel
theorem dX12_loopOf_26 : decode cX12_loopOf 26 = .ok (.iaload, 1) := by decide +kernel
theorem dX12_loopOf_27 : decode cX12_loopOf 27 = .ok (.iload_n 2, 1) := by decide +kernel
theorem dX12_loopOf_28 : decode cX12_loopOf 28 = .ok (.if_icmp .eq 13, 3) := by decide +kernel
theorem dX12_loopOf_31 : decode cX12_loopOf 31 = .ok (.aload_n 0, 1) := by decide +kernel
theorem dX12_loopOf_32 : decode cX12_loopOf 32 = .ok (.getfield 29, 3) := by decide +kernel
theorem dX12_loopOf_35 : decode cX12_loopOf 35 = .ok (.iload_n 3, 1) := by decide +kernel
theorem dX12_loopOf_36 : decode cX12_loopOf 36 = .ok (.iaload, 1) := by decide +kernel
theorem dX12_loopOf_37 : decode cX12_loopOf 37 = .ok (.istore_n 3, 1) := by decide +kernel
theorem dX12_loopOf_38 : decode cX12_loopOf 38 = .ok (.goto (-31), 3) := by decide +kernel
theorem dX12_loopOf_41 : decode cX12_loopOf 41 = .ok (.iload_n 3, 1) := by decide +kernel
theorem dX12_loopOf_42 : decode cX12_loopOf 42 = .ok (.ireturn, 1) := by decide +kernel
theorem dX12_carrier_0 : decode cX12_carrier 0 = .ok (.iconst 0, 1) := by decide +kernel
theorem dX12_carrier_1 : decode cX12_carrier 1 = .ok (.istore_n 3, 1) := by decide +kernel
theorem dX12_carrier_2 : decode cX12_carrier 2 = .ok (.iload_n 3, 1) := by decide +kernel
theorem dX12_carrier_3 : decode cX12_carrier 3 = .ok (.iconst 4, 1) := by decide +kernel
theorem dX12_carrier_4 : decode cX12_carrier 4 = .ok (.if_icmp .ge 74, 3) := by decide +kernel
theorem dX12_carrier_7 : decode cX12_carrier 7 = .ok (.aload_n 0, 1) := by decide +kernel
theorem dX12_carrier_8 : decode cX12_carrier 8 = .ok (.aload_n 0, 1) := by decide +kernel
theorem dX12_carrier_9 : decode cX12_carrier 9 = .ok (.getfield 78, 3) := by decide +kernel
theorem dX12_carrier_12 : decode cX12_carrier 12 = .ok (.iload_n 1, 1) := by decide +kernel
theorem dX12_carrier_13 : decode cX12_carrier 13 = .ok (.iaload, 1) := by decide +kernel
theorem dX12_carrier_14 : decode cX12_carrier 14 = .ok (.iload_n 3, 1) := by decide +kernel
theorem dX12_carrier_15 : decode cX12_carrier 15 = .ok (.invokevirtual 270, 3) := by decide +kernel
theorem dX12_carrier_18 : decode cX12_carrier 18 = .ok (.istore 4, 2) := by decide +kernel
theorem dX12_carrier_20 : decode cX12_carrier 20 = .ok (.iload 4, 2) := by decide +kernel
theorem dX12_carrier_22 : decode cX12_carrier 22 = .ok (.bipush (-9), 2) := by decide +kernel
theorem dX12_carrier_24 : decode cX12_carrier 24 = .ok (.if_icmp .eq 19, 3) := by decide +kernel
theorem dX12_carrier_27 : decode cX12_carrier 27 = .ok (.iload 4, 2) := by decide +kernel
theorem dX12_carrier_29 : decode cX12_carrier 29 = .ok (.aload_n 0, 1) := by decide +kernel
theorem dX12_carrier_30 : decode cX12_carrier 30 = .ok (.aload_n 0, 1) := by decide +kernel
theorem dX12_carrier_31 : decode cX12_carrier 31 = .ok (.getfield 78, 3) := by decide +kernel
theorem dX12_carrier_34 : decode cX12_carrier 34 = .ok (.iload_n 2, 1) := by decide +kernel
theorem dX12_carrier_35 : decode cX12_carrier 35 = .ok (.iaload, 1) := by decide +kernel
theorem dX12_carrier_36 : decode cX12_carrier 36 = .ok (.iload_n 3, 1) := by decide +kernel
theorem dX12_carrier_37 : decode cX12_carrier 37 = .ok (.invokevirtual 270, 3) := by decide +kernel
theorem dX12_carrier_40 : decode cX12_carrier 40 = .ok (.if_icmp .eq 6, 3) := by decide +kernel
theorem dX12_carrier_43 : decode cX12_carrier 43 = .ok (.bipush (-9), 2) := by decide +kernel
theorem dX12_carrier_45 : decode cX12_carrier 45 = .ok (.ireturn, 1) := by decide +kernel
theorem dX12_carrier_46 : decode cX12_carrier 46 = .ok (.aload_n 0, 1) := by decide +kernel
theorem dX12_carrier_47 : decode cX12_carrier 47 = .ok (.getfield 81, 3) := by decide +kernel
theorem dX12_carrier_50 : decode cX12_carrier 50 = .ok (.iconst 4, 1) := by decide +kernel
theorem dX12_carrier_51 : decode cX12_carrier 51 = .ok (.iload_n 1, 1) := by decide +kernel
theorem dX12_carrier_52 : decode cX12_carrier 52 = .ok (.imul, 1) := by decide +kernel
theorem dX12_carrier_53 : decode cX12_carrier 53 = .ok (.iload_n 3, 1) := by decide +kernel
theorem dX12_carrier_54 : decode cX12_carrier 54 = .ok (.iadd, 1) := by decide +kernel
theorem dX12_carrier_55 : decode cX12_carrier 55 = .ok (.laload, 1) := by decide +kernel
theorem dX12_carrier_56 : decode cX12_carrier 56 = .ok (.aload_n 0, 1) := by decide +kernel
theorem dX12_carrier_57 : decode cX12_carrier 57 = .ok (.getfield 81, 3) := by decide +kernel
theorem dX12_carrier_60 : decode cX12_carrier 60 = .ok (.iconst 4, 1) := by decide +kernel
theorem dX12_carrier_61 : decode cX12_carrier 61 = .ok (.iload_n 2, 1) := by decide +kernel
theorem dX12_carrier_62 : decode cX12_carrier 62 = .ok (.imul, 1) := by decide +kernel
theorem dX12_carrier_63 : decode cX12_carrier 63 = .ok (.iload_n 3, 1) := by decide +kernel
theorem dX12_carrier_64 : decode cX12_carrier 64 = .ok (.iadd, 1) := by decide +kernel
theorem dX12_carrier_65 : decode cX12_carrier 65 = .ok (.laload, 1) := by decide +kernel
theorem dX12_carrier_66 : decode cX12_carrier 66 = .ok (.lcmp, 1) := by decide +kernel
theorem dX12_carrier_67 : decode cX12_carrier 67 = .ok (.ifCond .eq 5, 3) := by decide +kernel
theorem dX12_carrier_70 : decode cX12_carrier 70 = .ok (.iload_n 3, 1) := by decide +kernel
theorem dX12_carrier_71 : decode cX12_carrier 71 = .ok (.ireturn, 1) := by decide +kernel
theorem dX12_carrier_72 : decode cX12_carrier 72 = .ok (.iinc 3 1, 3) := by decide +kernel
theorem dX12_carrier_75 : decode cX12_carrier 75 = .ok (.goto (-73), 3) := by decide +kernel
theorem dX12_carrier_78 : decode cX12_carrier 78 = .ok (.bipush (-9), 2) := by decide +kernel
theorem dX12_carrier_80 : decode cX12_carrier 80 = .ok (.ireturn, 1) := by decide +kernel
theorem dX12_visits_0 : decode cX12_visits 0 = .ok (.aload_n 0, 1) := by decide +kernel
theorem dX12_visits_1 : decode cX12_visits 1 = .ok (.invokevirtual 273, 3) := by decide +kernel
theorem dX12_visits_4 : decode cX12_visits 4 = .ok (.ifCond .eq 8, 3) := by decide +kernel
theorem dX12_visits_7 : decode cX12_visits 7 = .ok (.bipush (-6), 2) := by decide +kernel
theorem dX12_visits_9 : decode cX12_visits 9 = .ok (.goto 7, 3) := by decide +kernel
theorem dX12_visits_12 : decode cX12_visits 12 = .ok (.aload_n 0, 1) := by decide +kernel
theorem dX12_visits_13 : decode cX12_visits 13 = .ok (.getfield 239, 3) := by decide +kernel
theorem dX12_visits_16 : decode cX12_visits 16 = .ok (.ireturn, 1) := by decide +kernel
theorem dX12_visit_0 : decode cX12_visit 0 = .ok (.iload_n 2, 1) := by decide +kernel
theorem dX12_visit_1 : decode cX12_visit 1 = .ok (.i2l, 1) := by decide +kernel
theorem dX12_visit_2 : decode cX12_visit 2 = .ok (.lconst 0, 1) := by decide +kernel
theorem dX12_visit_3 : decode cX12_visit 3 = .ok (.ldc2_w 210, 3) := by decide +kernel
theorem dX12_visit_6 : decode cX12_visit 6 = .ok (.invokestatic 154, 3) := by decide +kernel
theorem dX12_visit_9 : decode cX12_visit 9 = .ok (.ifCond .ne 5, 3) := by decide +kernel
theorem dX12_visit_12 : decode cX12_visit 12 = .ok (.iconst (-1), 1) := by decide +kernel
theorem dX12_visit_13 : decode cX12_visit 13 = .ok (.ireturn, 1) := by decide +kernel
theorem dX12_visit_14 : decode cX12_visit 14 = .ok (.aload_n 0, 1) := by decide +kernel
theorem dX12_visit_15 : decode cX12_visit 15 = .ok (.invokevirtual 273, 3) := by decide +kernel
theorem dX12_visit_18 : decode cX12_visit 18 = .ok (.ifCond .eq 6, 3) := by decide +kernel
theorem dX12_visit_21 : decode cX12_visit 21 = .ok (.bipush (-6), 2) := by decide +kernel
theorem dX12_visit_23 : decode cX12_visit 23 = .ok (.ireturn, 1) := by decide +kernel
theorem dX12_visit_24 : decode cX12_visit 24 = .ok (.iload_n 1, 1) := by decide +kernel
theorem dX12_visit_25 : decode cX12_visit 25 = .ok (.i2l, 1) := by decide +kernel
theorem dX12_visit_26 : decode cX12_visit 26 = .ok (.lconst 0, 1) := by decide +kernel
theorem dX12_visit_27 : decode cX12_visit 27 = .ok (.aload_n 0, 1) := by decide +kernel
theorem dX12_visit_28 : decode cX12_visit 28 = .ok (.getfield 239, 3) := by decide +kernel
theorem dX12_visit_31 : decode cX12_visit 31 = .ok (.iconst 1, 1) := by decide +kernel
theorem dX12_visit_32 : decode cX12_visit 32 = .ok (.isub, 1) := by decide +kernel
theorem dX12_visit_33 : decode cX12_visit 33 = .ok (.i2l, 1) := by decide +kernel
theorem dX12_visit_34 : decode cX12_visit 34 = .ok (.invokestatic 154, 3) := by decide +kernel
theorem dX12_visit_37 : decode cX12_visit 37 = .ok (.ifCond .ne 6, 3) := by decide +kernel
theorem dX12_visit_40 : decode cX12_visit 40 = .ok (.bipush (-9), 2) := by decide +kernel
theorem dX12_visit_42 : decode cX12_visit 42 = .ok (.ireturn, 1) := by decide +kernel
theorem dX12_visit_43 : decode cX12_visit 43 = .ok (.iload_n 1, 1) := by decide +kernel
theorem dX12_visit_44 : decode cX12_visit 44 = .ok (.istore 4, 2) := by decide +kernel
theorem dX12_visit_46 : decode cX12_visit 46 = .ok (.iload_n 3, 1) := by decide +kernel
theorem dX12_visit_47 : decode cX12_visit 47 = .ok (.ifCond .eq 15, 3) := by decide +kernel
theorem dX12_visit_50 : decode cX12_visit 50 = .ok (.aload_n 0, 1) := by decide +kernel
theorem dX12_visit_51 : decode cX12_visit 51 = .ok (.invokevirtual 277, 3) := by decide +kernel
theorem dX12_visit_54 : decode cX12_visit 54 = .ok (.aload_n 0, 1) := by decide +kernel
theorem dX12_visit_55 : decode cX12_visit 55 = .ok (.getfield 124, 3) := by decide +kernel
theorem dX12_visit_58 : decode cX12_visit 58 = .ok (.iload_n 1, 1) := by decide +kernel
theorem dX12_visit_59 : decode cX12_visit 59 = .ok (.iaload, 1) := by decide +kernel
theorem dX12_visit_60 : decode cX12_visit 60 = .ok (.istore 4, 2) := by decide +kernel
theorem dX12_visit_62 : decode cX12_visit 62 = .ok (.iload_n 2, 1) := by decide +kernel
theorem dX12_visit_63 : decode cX12_visit 63 = .ok (.ifCond .ne 13, 3) := by decide +kernel
theorem dX12_visit_66 : decode cX12_visit 66 = .ok (.aload_n 0, 1) := by decide +kernel
theorem dX12_visit_67 : decode cX12_visit 67 = .ok (.getfield 78, 3) := by decide +kernel
theorem dX12_visit_70 : decode cX12_visit 70 = .ok (.iload 4, 2) := by decide +kernel
theorem dX12_visit_72 : decode cX12_visit 72 = .ok (.iaload, 1) := by decide +kernel
theorem dX12_visit_73 : decode cX12_visit 73 = .ok (.goto 21, 3) := by decide +kernel
theorem dX12_visit_76 : decode cX12_visit 76 = .ok (.ldc2_w 280, 3) := by decide +kernel
theorem dX12_visit_79 : decode cX12_visit 79 = .ok (.aload_n 0, 1) := by decide +kernel
theorem dX12_visit_80 : decode cX12_visit 80 = .ok (.getfield 81, 3) := by decide +kernel
theorem dX12_visit_83 : decode cX12_visit 83 = .ok (.iconst 4, 1) := by decide +kernel
theorem dX12_visit_84 : decode cX12_visit 84 = .ok (.iload 4, 2) := by decide +kernel
theorem dX12_visit_86 : decode cX12_visit 86 = .ok (.imul, 1) := by decide +kernel
theorem dX12_visit_87 : decode cX12_visit 87 = .ok (.iload_n 2, 1) := by decide +kernel
theorem dX12_visit_88 : decode cX12_visit 88 = .ok (.iadd, 1) := by decide +kernel
theorem dX12_visit_89 : decode cX12_visit 89 = .ok (.iconst 1, 1) := by decide +kernel
theorem dX12_visit_90 : decode cX12_visit 90 = .ok (.isub, 1) := by decide +kernel
theorem dX12_visit_91 : decode cX12_visit 91 = .ok (.laload, 1) := by decide +kernel
theorem dX12_visit_92 : decode cX12_visit 92 = .ok (.ladd, 1) := by decide +kernel
theorem dX12_visit_93 : decode cX12_visit 93 = .ok (.l2i, 1) := by decide +kernel
theorem dX12_visit_94 : decode cX12_visit 94 = .ok (.ireturn, 1) := by decide +kernel
theorem dX12_has_0 : decode cX12_has 0 = .ok (.aload_n 0, 1) := by decide +kernel
theorem dX12_has_1 : decode cX12_has 1 = .ok (.iload_n 1, 1) := by decide +kernel
theorem dX12_has_2 : decode cX12_has 2 = .ok (.invokevirtual 177, 3) := by decide +kernel
theorem dX12_has_5 : decode cX12_has 5 = .ok (.ifCond .ne 5, 3) := by decide +kernel
theorem dX12_has_8 : decode cX12_has 8 = .ok (.iconst (-1), 1) := by decide +kernel
theorem dX12_has_9 : decode cX12_has 9 = .ok (.ireturn, 1) := by decide +kernel
theorem dX12_has_10 : decode cX12_has 10 = .ok (.aload_n 0, 1) := by decide +kernel
theorem dX12_has_11 : decode cX12_has 11 = .ok (.invokevirtual 273, 3) := by decide +kernel
theorem dX12_has_14 : decode cX12_has 14 = .ok (.ifCond .eq 6, 3) := by decide +kernel
theorem dX12_has_17 : decode cX12_has 17 = .ok (.bipush (-6), 2) := by decide +kernel
theorem dX12_has_19 : decode cX12_has 19 = .ok (.ireturn, 1) := by decide +kernel
theorem dX12_has_20 : decode cX12_has 20 = .ok (.aload_n 0, 1) := by decide +kernel
theorem dX12_has_21 : decode cX12_has 21 = .ok (.getfield 26, 3) := by decide +kernel
theorem dX12_has_24 : decode cX12_has 24 = .ok (.iload_n 1, 1) := by decide +kernel
theorem dX12_has_25 : decode cX12_has 25 = .ok (.iaload, 1) := by decide +kernel
theorem dX12_has_26 : decode cX12_has 26 = .ok (.iconst 3, 1) := by decide +kernel
theorem dX12_has_27 : decode cX12_has 27 = .ok (.if_icmp .eq 9, 3) := by decide +kernel
theorem dX12_has_30 : decode cX12_has 30 = .ok (.aload_n 0, 1) := by decide +kernel
theorem dX12_has_31 : decode cX12_has 31 = .ok (.iconst 3, 1) := by decide +kernel
theorem dX12_has_32 : decode cX12_has 32 = .ok (.invokevirtual 207, 3) := by decide +kernel
theorem dX12_has_35 : decode cX12_has 35 = .ok (.ireturn, 1) := by decide +kernel
theorem dX12_has_36 : decode cX12_has 36 = .ok (.iconst 0, 1) := by decide +kernel
theorem dX12_has_37 : decode cX12_has 37 = .ok (.istore 6, 2) := by decide +kernel
theorem dX12_has_39 : decode cX12_has 39 = .ok (.iload 6, 2) := by decide +kernel
theorem dX12_has_41 : decode cX12_has 41 = .ok (.aload_n 0, 1) := by decide +kernel
theorem dX12_has_42 : decode cX12_has 42 = .ok (.getfield 239, 3) := by decide +kernel
theorem dX12_has_45 : decode cX12_has 45 = .ok (.if_icmp .ge 88, 3) := by decide +kernel
theorem dX12_has_48 : decode cX12_has 48 = .ok (.iconst 4, 1) := by decide +kernel
theorem dX12_has_49 : decode cX12_has 49 = .ok (.iload 6, 2) := by decide +kernel
theorem dX12_has_51 : decode cX12_has 51 = .ok (.imul, 1) := by decide +kernel
theorem dX12_has_52 : decode cX12_has 52 = .ok (.istore 7, 2) := by decide +kernel
theorem dX12_has_54 : decode cX12_has 54 = .ok (.aload_n 0, 1) := by decide +kernel
theorem dX12_has_55 : decode cX12_has 55 = .ok (.getfield 78, 3) := by decide +kernel
theorem dX12_has_58 : decode cX12_has 58 = .ok (.iload 6, 2) := by decide +kernel
theorem dX12_has_60 : decode cX12_has 60 = .ok (.iaload, 1) := by decide +kernel
theorem dX12_has_61 : decode cX12_has 61 = .ok (.iload_n 1, 1) := by decide +kernel
theorem dX12_has_62 : decode cX12_has 62 = .ok (.if_icmp .ne 65, 3) := by decide +kernel
theorem dX12_has_65 : decode cX12_has 65 = .ok (.aload_n 0, 1) := by decide +kernel
theorem dX12_has_66 : decode cX12_has 66 = .ok (.getfield 81, 3) := by decide +kernel
theorem dX12_has_69 : decode cX12_has 69 = .ok (.iload 7, 2) := by decide +kernel
theorem dX12_has_71 : decode cX12_has 71 = .ok (.laload, 1) := by decide +kernel
theorem dX12_has_72 : decode cX12_has 72 = .ok (.iload_n 2, 1) := by decide +kernel
theorem dX12_has_73 : decode cX12_has 73 = .ok (.i2l, 1) := by decide +kernel
theorem dX12_has_74 : decode cX12_has 74 = .ok (.lcmp, 1) := by decide +kernel
theorem dX12_has_75 : decode cX12_has 75 = .ok (.ifCond .ne 52, 3) := by decide +kernel
theorem dX12_has_78 : decode cX12_has 78 = .ok (.aload_n 0, 1) := by decide +kernel
theorem dX12_has_79 : decode cX12_has 79 = .ok (.getfield 81, 3) := by decide +kernel
theorem dX12_has_82 : decode cX12_has 82 = .ok (.iload 7, 2) := by decide +kernel
theorem dX12_has_84 : decode cX12_has 84 = .ok (.iconst 1, 1) := by decide +kernel
theorem dX12_has_85 : decode cX12_has 85 = .ok (.iadd, 1) := by decide +kernel
theorem dX12_has_86 : decode cX12_has 86 = .ok (.laload, 1) := by decide +kernel
theorem dX12_has_87 : decode cX12_has 87 = .ok (.iload_n 3, 1) := by decide +kernel
theorem dX12_has_88 : decode cX12_has 88 = .ok (.i2l, 1) := by decide +kernel
theorem dX12_has_89 : decode cX12_has 89 = .ok (.lcmp, 1) := by decide +kernel
theorem dX12_has_90 : decode cX12_has 90 = .ok (.ifCond .ne 37, 3) := by decide +kernel
theorem dX12_has_93 : decode cX12_has 93 = .ok (.aload_n 0, 1) := by decide +kernel
theorem dX12_has_94 : decode cX12_has 94 = .ok (.getfield 81, 3) := by decide +kernel
theorem dX12_has_97 : decode cX12_has 97 = .ok (.iload 7, 2) := by decide +kernel
theorem dX12_has_99 : decode cX12_has 99 = .ok (.iconst 2, 1) := by decide +kernel
theorem dX12_has_100 : decode cX12_has 100 = .ok (.iadd, 1) := by decide +kernel
theorem dX12_has_101 : decode cX12_has 101 = .ok (.laload, 1) := by decide +kernel
theorem dX12_has_102 : decode cX12_has 102 = .ok (.iload 4, 2) := by decide +kernel
theorem dX12_has_104 : decode cX12_has 104 = .ok (.i2l, 1) := by decide +kernel
theorem dX12_has_105 : decode cX12_has 105 = .ok (.lcmp, 1) := by decide +kernel
theorem dX12_has_106 : decode cX12_has 106 = .ok (.ifCond .ne 21, 3) := by decide +kernel
theorem dX12_has_109 : decode cX12_has 109 = .ok (.aload_n 0, 1) := by decide +kernel
theorem dX12_has_110 : decode cX12_has 110 = .ok (.getfield 81, 3) := by decide +kernel
theorem dX12_has_113 : decode cX12_has 113 = .ok (.iload 7, 2) := by decide +kernel
theorem dX12_has_115 : decode cX12_has 115 = .ok (.iconst 3, 1) := by decide +kernel
theorem dX12_has_116 : decode cX12_has 116 = .ok (.iadd, 1) := by decide +kernel
theorem dX12_has_117 : decode cX12_has 117 = .ok (.laload, 1) := by decide +kernel
theorem dX12_has_118 : decode cX12_has 118 = .ok (.iload 5, 2) := by decide +kernel
theorem dX12_has_120 : decode cX12_has 120 = .ok (.i2l, 1) := by decide +kernel
theorem dX12_has_121 : decode cX12_has 121 = .ok (.lcmp, 1) := by decide +kernel
theorem dX12_has_122 : decode cX12_has 122 = .ok (.ifCond .ne 5, 3) := by decide +kernel
theorem dX12_has_125 : decode cX12_has 125 = .ok (.iconst 1, 1) := by decide +kernel
theorem dX12_has_126 : decode cX12_has 126 = .ok (.ireturn, 1) := by decide +kernel
theorem dX12_has_127 : decode cX12_has 127 = .ok (.iinc 6 1, 3) := by decide +kernel
theorem dX12_has_130 : decode cX12_has 130 = .ok (.goto (-91), 3) := by decide +kernel
theorem dX12_has_133 : decode cX12_has 133 = .ok (.iconst 0, 1) := by decide +kernel
theorem dX12_has_134 : decode cX12_has 134 = .ok (.ireturn, 1) := by decide +kernel
theorem dX12_points_0 : decode cX12_points 0 = .ok (.aload_n 0, 1) := by decide +kernel
theorem dX12_points_1 : decode cX12_points 1 = .ok (.iload_n 1, 1) := by decide +kernel
theorem dX12_points_2 : decode cX12_points 2 = .ok (.invokevirtual 177, 3) := by decide +kernel
theorem dX12_points_5 : decode cX12_points 5 = .ok (.ifCond .ne 5, 3) := by decide +kernel
theorem dX12_points_8 : decode cX12_points 8 = .ok (.iconst (-1), 1) := by decide +kernel
theorem dX12_points_9 : decode cX12_points 9 = .ok (.ireturn, 1) := by decide +kernel
theorem dX12_points_10 : decode cX12_points 10 = .ok (.aload_n 0, 1) := by decide +kernel
theorem dX12_points_11 : decode cX12_points 11 = .ok (.invokevirtual 273, 3) := by decide +kernel
theorem dX12_points_14 : decode cX12_points 14 = .ok (.ifCond .eq 6, 3) := by decide +kernel
theorem dX12_points_17 : decode cX12_points 17 = .ok (.bipush (-6), 2) := by decide +kernel
theorem dX12_points_19 : decode cX12_points 19 = .ok (.ireturn, 1) := by decide +kernel
theorem dX12_points_20 : decode cX12_points 20 = .ok (.aload_n 0, 1) := by decide +kernel
theorem dX12_points_21 : decode cX12_points 21 = .ok (.getfield 26, 3) := by decide +kernel
theorem dX12_points_24 : decode cX12_points 24 = .ok (.iload_n 1, 1) := by decide +kernel
theorem dX12_points_25 : decode cX12_points 25 = .ok (.iaload, 1) := by decide +kernel
theorem dX12_points_26 : decode cX12_points 26 = .ok (.iconst 3, 1) := by decide +kernel
theorem dX12_points_27 : decode cX12_points 27 = .ok (.if_icmp .eq 9, 3) := by decide +kernel
theorem dX12_points_30 : decode cX12_points 30 = .ok (.aload_n 0, 1) := by decide +kernel
theorem dX12_points_31 : decode cX12_points 31 = .ok (.iconst 3, 1) := by decide +kernel
theorem dX12_points_32 : decode cX12_points 32 = .ok (.invokevirtual 207, 3) := by decide +kernel
theorem dX12_points_35 : decode cX12_points 35 = .ok (.ireturn, 1) := by decide +kernel
theorem dX12_points_36 : decode cX12_points 36 = .ok (.iconst 0, 1) := by decide +kernel
theorem dX12_points_37 : decode cX12_points 37 = .ok (.istore_n 2, 1) := by decide +kernel
theorem dX12_points_38 : decode cX12_points 38 = .ok (.iconst 0, 1) := by decide +kernel
theorem dX12_points_39 : decode cX12_points 39 = .ok (.istore_n 3, 1) := by decide +kernel
theorem dX12_points_40 : decode cX12_points 40 = .ok (.iload_n 3, 1) := by decide +kernel
theorem dX12_points_41 : decode cX12_points 41 = .ok (.aload_n 0, 1) := by decide +kernel
theorem dX12_points_42 : decode cX12_points 42 = .ok (.getfield 239, 3) := by decide +kernel
theorem dX12_points_45 : decode cX12_points 45 = .ok (.if_icmp .ge 27, 3) := by decide +kernel
theorem dX12_points_48 : decode cX12_points 48 = .ok (.iload_n 2, 1) := by decide +kernel
theorem dX12_points_49 : decode cX12_points 49 = .ok (.aload_n 0, 1) := by decide +kernel
theorem dX12_points_50 : decode cX12_points 50 = .ok (.getfield 78, 3) := by decide +kernel
theorem dX12_points_53 : decode cX12_points 53 = .ok (.iload_n 3, 1) := by decide +kernel
theorem dX12_points_54 : decode cX12_points 54 = .ok (.iaload, 1) := by decide +kernel
theorem dX12_points_55 : decode cX12_points 55 = .ok (.iload_n 1, 1) := by decide +kernel
theorem dX12_points_56 : decode cX12_points 56 = .ok (.if_icmp .ne 7, 3) := by decide +kernel
theorem dX12_points_59 : decode cX12_points 59 = .ok (.iconst 1, 1) := by decide +kernel
theorem dX12_points_60 : decode cX12_points 60 = .ok (.goto 4, 3) := by decide +kernel
theorem dX12_points_63 : decode cX12_points 63 = .ok (.iconst 0, 1) := by decide +kernel
theorem dX12_points_64 : decode cX12_points 64 = .ok (.iadd, 1) := by decide +kernel
theorem dX12_points_65 : decode cX12_points 65 = .ok (.istore_n 2, 1) := by decide +kernel
theorem dX12_points_66 : decode cX12_points 66 = .ok (.iinc 3 1, 3) := by decide +kernel
theorem dX12_points_69 : decode cX12_points 69 = .ok (.goto (-29), 3) := by decide +kernel
theorem dX12_points_72 : decode cX12_points 72 = .ok (.iload_n 2, 1) := by decide +kernel
theorem dX12_points_73 : decode cX12_points 73 = .ok (.ireturn, 1) := by decide +kernel
theorem dX12_needs_0 : decode cX12_needs 0 = .ok (.aload_n 0, 1) := by decide +kernel
theorem dX12_needs_1 : decode cX12_needs 1 = .ok (.iload_n 1, 1) := by decide +kernel
theorem dX12_needs_2 : decode cX12_needs 2 = .ok (.invokevirtual 177, 3) := by decide +kernel
theorem dX12_needs_5 : decode cX12_needs 5 = .ok (.ifCond .eq 23, 3) := by decide +kernel
theorem dX12_needs_8 : decode cX12_needs 8 = .ok (.aload_n 0, 1) := by decide +kernel
theorem dX12_needs_9 : decode cX12_needs 9 = .ok (.iload_n 2, 1) := by decide +kernel
theorem dX12_needs_10 : decode cX12_needs 10 = .ok (.invokevirtual 177, 3) := by decide +kernel
theorem dX12_needs_13 : decode cX12_needs 13 = .ok (.ifCond .eq 15, 3) := by decide +kernel
theorem dX12_needs_16 : decode cX12_needs 16 = .ok (.iload_n 3, 1) := by decide +kernel
theorem dX12_needs_17 : decode cX12_needs 17 = .ok (.i2l, 1) := by decide +kernel
theorem dX12_needs_18 : decode cX12_needs 18 = .ok (.lconst 0, 1) := by decide +kernel
theorem dX12_needs_19 : decode cX12_needs 19 = .ok (.ldc2_w 158, 3) := by decide +kernel
theorem dX12_needs_22 : decode cX12_needs 22 = .ok (.invokestatic 154, 3) := by decide +kernel
theorem dX12_needs_25 : decode cX12_needs 25 = .ok (.ifCond .ne 5, 3) := by decide +kernel
theorem dX12_needs_28 : decode cX12_needs 28 = .ok (.iconst (-1), 1) := by decide +kernel
theorem dX12_needs_29 : decode cX12_needs 29 = .ok (.ireturn, 1) := by decide +kernel
theorem dX12_needs_30 : decode cX12_needs 30 = .ok (.aload_n 0, 1) := by decide +kernel
theorem dX12_needs_31 : decode cX12_needs 31 = .ok (.invokevirtual 273, 3) := by decide +kernel
theorem dX12_needs_34 : decode cX12_needs 34 = .ok (.ifCond .eq 6, 3) := by decide +kernel
theorem dX12_needs_37 : decode cX12_needs 37 = .ok (.bipush (-6), 2) := by decide +kernel
theorem dX12_needs_39 : decode cX12_needs 39 = .ok (.ireturn, 1) := by decide +kernel
theorem dX12_needs_40 : decode cX12_needs 40 = .ok (.aload_n 0, 1) := by decide +kernel
theorem dX12_needs_41 : decode cX12_needs 41 = .ok (.getfield 26, 3) := by decide +kernel
theorem dX12_needs_44 : decode cX12_needs 44 = .ok (.iload_n 1, 1) := by decide +kernel
theorem dX12_needs_45 : decode cX12_needs 45 = .ok (.iaload, 1) := by decide +kernel
theorem dX12_needs_46 : decode cX12_needs 46 = .ok (.iconst 3, 1) := by decide +kernel
theorem dX12_needs_47 : decode cX12_needs 47 = .ok (.if_icmp .ne 13, 3) := by decide +kernel
theorem dX12_needs_50 : decode cX12_needs 50 = .ok (.aload_n 0, 1) := by decide +kernel
theorem dX12_needs_51 : decode cX12_needs 51 = .ok (.getfield 26, 3) := by decide +kernel
theorem dX12_needs_54 : decode cX12_needs 54 = .ok (.iload_n 2, 1) := by decide +kernel
theorem dX12_needs_55 : decode cX12_needs 55 = .ok (.iaload, 1) := by decide +kernel
theorem dX12_needs_56 : decode cX12_needs 56 = .ok (.iconst 3, 1) := by decide +kernel
theorem dX12_needs_57 : decode cX12_needs 57 = .ok (.if_icmp .eq 9, 3) := by decide +kernel
theorem dX12_needs_60 : decode cX12_needs 60 = .ok (.aload_n 0, 1) := by decide +kernel
theorem dX12_needs_61 : decode cX12_needs 61 = .ok (.iconst 3, 1) := by decide +kernel
theorem dX12_needs_62 : decode cX12_needs 62 = .ok (.invokevirtual 207, 3) := by decide +kernel
theorem dX12_needs_65 : decode cX12_needs 65 = .ok (.ireturn, 1) := by decide +kernel
theorem dX12_needs_66 : decode cX12_needs 66 = .ok (.aload_n 0, 1) := by decide +kernel
theorem dX12_needs_67 : decode cX12_needs 67 = .ok (.invokevirtual 282, 3) := by decide +kernel
theorem dX12_needs_70 : decode cX12_needs 70 = .ok (.iconst 0, 1) := by decide +kernel
theorem dX12_needs_71 : decode cX12_needs 71 = .ok (.istore 4, 2) := by decide +kernel
theorem dX12_needs_73 : decode cX12_needs 73 = .ok (.iconst 0, 1) := by decide +kernel
theorem dX12_needs_74 : decode cX12_needs 74 = .ok (.istore 5, 2) := by decide +kernel
theorem dX12_needs_76 : decode cX12_needs 76 = .ok (.iload 5, 2) := by decide +kernel
theorem dX12_needs_78 : decode cX12_needs 78 = .ok (.aload_n 0, 1) := by decide +kernel
theorem dX12_needs_79 : decode cX12_needs 79 = .ok (.getfield 239, 3) := by decide +kernel
theorem dX12_needs_82 : decode cX12_needs 82 = .ok (.if_icmp .ge 69, 3) := by decide +kernel
theorem dX12_needs_85 : decode cX12_needs 85 = .ok (.iconst 0, 1) := by decide +kernel
theorem dX12_needs_86 : decode cX12_needs 86 = .ok (.istore 6, 2) := by decide +kernel
theorem dX12_needs_88 : decode cX12_needs 88 = .ok (.iload 6, 2) := by decide +kernel
theorem dX12_needs_90 : decode cX12_needs 90 = .ok (.iload 5, 2) := by decide +kernel
theorem dX12_needs_92 : decode cX12_needs 92 = .ok (.if_icmp .ge 53, 3) := by decide +kernel
theorem dX12_needs_95 : decode cX12_needs 95 = .ok (.aload_n 0, 1) := by decide +kernel
theorem dX12_needs_96 : decode cX12_needs 96 = .ok (.getfield 78, 3) := by decide +kernel
theorem dX12_needs_99 : decode cX12_needs 99 = .ok (.iload 5, 2) := by decide +kernel
theorem dX12_needs_101 : decode cX12_needs 101 = .ok (.iaload, 1) := by decide +kernel
theorem dX12_needs_102 : decode cX12_needs 102 = .ok (.iload_n 2, 1) := by decide +kernel
theorem dX12_needs_103 : decode cX12_needs 103 = .ok (.if_icmp .ne 42, 3) := by decide +kernel
theorem dX12_needs_106 : decode cX12_needs 106 = .ok (.iload 4, 2) := by decide +kernel
theorem dX12_needs_108 : decode cX12_needs 108 = .ok (.aload_n 0, 1) := by decide +kernel
theorem dX12_needs_109 : decode cX12_needs 109 = .ok (.getfield 78, 3) := by decide +kernel
theorem dX12_needs_112 : decode cX12_needs 112 = .ok (.iload 6, 2) := by decide +kernel
theorem dX12_needs_114 : decode cX12_needs 114 = .ok (.iaload, 1) := by decide +kernel
theorem dX12_needs_115 : decode cX12_needs 115 = .ok (.iload_n 1, 1) := by decide +kernel
theorem dX12_needs_116 : decode cX12_needs 116 = .ok (.if_icmp .ne 19, 3) := by decide +kernel
theorem dX12_needs_119 : decode cX12_needs 119 = .ok (.aload_n 0, 1) := by decide +kernel
theorem dX12_needs_120 : decode cX12_needs 120 = .ok (.iload 6, 2) := by decide +kernel
theorem dX12_needs_122 : decode cX12_needs 122 = .ok (.iload 5, 2) := by decide +kernel
theorem dX12_needs_124 : decode cX12_needs 124 = .ok (.iload_n 3, 1) := by decide +kernel
theorem dX12_needs_125 : decode cX12_needs 125 = .ok (.invokevirtual 285, 3) := by decide +kernel
theorem dX12_needs_128 : decode cX12_needs 128 = .ok (.ifCond .eq 7, 3) := by decide +kernel
theorem dX12_needs_131 : decode cX12_needs 131 = .ok (.iconst 1, 1) := by decide +kernel
theorem dX12_needs_132 : decode cX12_needs 132 = .ok (.goto 4, 3) := by decide +kernel
theorem dX12_needs_135 : decode cX12_needs 135 = .ok (.iconst 0, 1) := by decide +kernel
theorem dX12_needs_136 : decode cX12_needs 136 = .ok (.iadd, 1) := by decide +kernel
theorem dX12_needs_137 : decode cX12_needs 137 = .ok (.istore 4, 2) := by decide +kernel
theorem dX12_needs_139 : decode cX12_needs 139 = .ok (.iinc 6 1, 3) := by decide +kernel
theorem dX12_needs_142 : decode cX12_needs 142 = .ok (.goto (-54), 3) := by decide +kernel
theorem dX12_needs_145 : decode cX12_needs 145 = .ok (.iinc 5 1, 3) := by decide +kernel
theorem dX12_needs_148 : decode cX12_needs 148 = .ok (.goto (-72), 3) := by decide +kernel
theorem dX12_needs_151 : decode cX12_needs 151 = .ok (.iload 4, 2) := by decide +kernel
theorem dX12_needs_153 : decode cX12_needs 153 = .ok (.ireturn, 1) := by decide +kernel
theorem dX12_carried_0 : decode cX12_carried 0 = .ok (.iload_n 1, 1) := by decide +kernel
theorem dX12_carried_1 : decode cX12_carried 1 = .ok (.i2l, 1) := by decide +kernel
theorem dX12_carried_2 : decode cX12_carried 2 = .ok (.lconst 0, 1) := by decide +kernel
theorem dX12_carried_3 : decode cX12_carried 3 = .ok (.ldc2_w 212, 3) := by decide +kernel
theorem dX12_carried_6 : decode cX12_carried 6 = .ok (.invokestatic 154, 3) := by decide +kernel
theorem dX12_carried_9 : decode cX12_carried 9 = .ok (.ifCond .ne 11, 3) := by decide +kernel
theorem dX12_carried_12 : decode cX12_carried 12 = .ok (.iload_n 1, 1) := by decide +kernel
theorem dX12_carried_13 : decode cX12_carried 13 = .ok (.bipush (-9), 2) := by decide +kernel
theorem dX12_carried_15 : decode cX12_carried 15 = .ok (.if_icmp .eq 5, 3) := by decide +kernel
theorem dX12_carried_18 : decode cX12_carried 18 = .ok (.iconst (-1), 1) := by decide +kernel
theorem dX12_carried_19 : decode cX12_carried 19 = .ok (.ireturn, 1) := by decide +kernel
theorem dX12_carried_20 : decode cX12_carried 20 = .ok (.aload_n 0, 1) := by decide +kernel
theorem dX12_carried_21 : decode cX12_carried 21 = .ok (.invokevirtual 273, 3) := by decide +kernel
theorem dX12_carried_24 : decode cX12_carried 24 = .ok (.ifCond .eq 6, 3) := by decide +kernel
theorem dX12_carried_27 : decode cX12_carried 27 = .ok (.bipush (-6), 2) := by decide +kernel
theorem dX12_carried_29 : decode cX12_carried 29 = .ok (.ireturn, 1) := by decide +kernel
theorem dX12_carried_30 : decode cX12_carried 30 = .ok (.aload_n 0, 1) := by decide +kernel
theorem dX12_carried_31 : decode cX12_carried 31 = .ok (.invokevirtual 282, 3) := by decide +kernel
theorem dX12_carried_34 : decode cX12_carried 34 = .ok (.iconst 0, 1) := by decide +kernel
theorem dX12_carried_35 : decode cX12_carried 35 = .ok (.istore_n 2, 1) := by decide +kernel
theorem dX12_carried_36 : decode cX12_carried 36 = .ok (.iconst 0, 1) := by decide +kernel
theorem dX12_carried_37 : decode cX12_carried 37 = .ok (.istore_n 3, 1) := by decide +kernel
theorem dX12_carried_38 : decode cX12_carried 38 = .ok (.iload_n 3, 1) := by decide +kernel
theorem dX12_carried_39 : decode cX12_carried 39 = .ok (.aload_n 0, 1) := by decide +kernel
theorem dX12_carried_40 : decode cX12_carried 40 = .ok (.getfield 239, 3) := by decide +kernel
theorem dX12_carried_43 : decode cX12_carried 43 = .ok (.if_icmp .ge 70, 3) := by decide +kernel
theorem dX12_carried_46 : decode cX12_carried 46 = .ok (.iconst 0, 1) := by decide +kernel
theorem dX12_carried_47 : decode cX12_carried 47 = .ok (.istore 4, 2) := by decide +kernel
theorem dX12_carried_49 : decode cX12_carried 49 = .ok (.iload 4, 2) := by decide +kernel
theorem dX12_carried_51 : decode cX12_carried 51 = .ok (.iload_n 3, 1) := by decide +kernel
theorem dX12_carried_52 : decode cX12_carried 52 = .ok (.if_icmp .ge 55, 3) := by decide +kernel
theorem dX12_carried_55 : decode cX12_carried 55 = .ok (.iconst 0, 1) := by decide +kernel
theorem dX12_carried_56 : decode cX12_carried 56 = .ok (.istore 5, 2) := by decide +kernel
theorem dX12_carried_58 : decode cX12_carried 58 = .ok (.iload 5, 2) := by decide +kernel
theorem dX12_carried_60 : decode cX12_carried 60 = .ok (.iconst 3, 1) := by decide +kernel
theorem dX12_carried_61 : decode cX12_carried 61 = .ok (.if_icmp .ge 40, 3) := by decide +kernel
theorem dX12_carried_64 : decode cX12_carried 64 = .ok (.iload_n 2, 1) := by decide +kernel
theorem dX12_carried_65 : decode cX12_carried 65 = .ok (.aload_n 0, 1) := by decide +kernel
theorem dX12_carried_66 : decode cX12_carried 66 = .ok (.iload 4, 2) := by decide +kernel
theorem dX12_carried_68 : decode cX12_carried 68 = .ok (.iload_n 3, 1) := by decide +kernel
theorem dX12_carried_69 : decode cX12_carried 69 = .ok (.iload 5, 2) := by decide +kernel
theorem dX12_carried_71 : decode cX12_carried 71 = .ok (.invokevirtual 285, 3) := by decide +kernel
theorem dX12_carried_74 : decode cX12_carried 74 = .ok (.ifCond .eq 18, 3) := by decide +kernel
theorem dX12_carried_77 : decode cX12_carried 77 = .ok (.aload_n 0, 1) := by decide +kernel
theorem dX12_carried_78 : decode cX12_carried 78 = .ok (.iload 4, 2) := by decide +kernel
theorem dX12_carried_80 : decode cX12_carried 80 = .ok (.iload_n 3, 1) := by decide +kernel
theorem dX12_carried_81 : decode cX12_carried 81 = .ok (.invokevirtual 289, 3) := by decide +kernel
theorem dX12_carried_84 : decode cX12_carried 84 = .ok (.iload_n 1, 1) := by decide +kernel
theorem dX12_carried_85 : decode cX12_carried 85 = .ok (.if_icmp .ne 7, 3) := by decide +kernel
theorem dX12_carried_88 : decode cX12_carried 88 = .ok (.iconst 1, 1) := by decide +kernel
theorem dX12_carried_89 : decode cX12_carried 89 = .ok (.goto 4, 3) := by decide +kernel
theorem dX12_carried_92 : decode cX12_carried 92 = .ok (.iconst 0, 1) := by decide +kernel
theorem dX12_carried_93 : decode cX12_carried 93 = .ok (.iadd, 1) := by decide +kernel
theorem dX12_carried_94 : decode cX12_carried 94 = .ok (.istore_n 2, 1) := by decide +kernel
theorem dX12_carried_95 : decode cX12_carried 95 = .ok (.iinc 5 1, 3) := by decide +kernel
theorem dX12_carried_98 : decode cX12_carried 98 = .ok (.goto (-40), 3) := by decide +kernel
theorem dX12_carried_101 : decode cX12_carried 101 = .ok (.iinc 4 1, 3) := by decide +kernel
theorem dX12_carried_104 : decode cX12_carried 104 = .ok (.goto (-55), 3) := by decide +kernel
theorem dX12_carried_107 : decode cX12_carried 107 = .ok (.iinc 3 1, 3) := by decide +kernel
theorem dX12_carried_110 : decode cX12_carried 110 = .ok (.goto (-72), 3) := by decide +kernel
theorem dX12_carried_113 : decode cX12_carried 113 = .ok (.iload_n 2, 1) := by decide +kernel
theorem dX12_carried_114 : decode cX12_carried 114 = .ok (.ireturn, 1) := by decide +kernel
theorem dX12_distance_0 : decode cX12_distance 0 = .ok (.aload_n 0, 1) := by decide +kernel
theorem dX12_distance_1 : decode cX12_distance 1 = .ok (.iload_n 1, 1) := by decide +kernel
theorem dX12_distance_2 : decode cX12_distance 2 = .ok (.invokevirtual 177, 3) := by decide +kernel
theorem dX12_distance_5 : decode cX12_distance 5 = .ok (.ifCond .eq 23, 3) := by decide +kernel
theorem dX12_distance_8 : decode cX12_distance 8 = .ok (.aload_n 0, 1) := by decide +kernel
theorem dX12_distance_9 : decode cX12_distance 9 = .ok (.iload_n 2, 1) := by decide +kernel
theorem dX12_distance_10 : decode cX12_distance 10 = .ok (.invokevirtual 177, 3) := by decide +kernel
theorem dX12_distance_13 : decode cX12_distance 13 = .ok (.ifCond .eq 15, 3) := by decide +kernel
theorem dX12_distance_16 : decode cX12_distance 16 = .ok (.iload_n 3, 1) := by decide +kernel
theorem dX12_distance_17 : decode cX12_distance 17 = .ok (.i2l, 1) := by decide +kernel
theorem dX12_distance_18 : decode cX12_distance 18 = .ok (.lconst 0, 1) := by decide +kernel
theorem dX12_distance_19 : decode cX12_distance 19 = .ok (.ldc2_w 212, 3) := by decide +kernel
theorem dX12_distance_22 : decode cX12_distance 22 = .ok (.invokestatic 154, 3) := by decide +kernel
theorem dX12_distance_25 : decode cX12_distance 25 = .ok (.ifCond .ne 5, 3) := by decide +kernel
theorem dX12_distance_28 : decode cX12_distance 28 = .ok (.iconst (-1), 1) := by decide +kernel
theorem dX12_distance_29 : decode cX12_distance 29 = .ok (.ireturn, 1) := by decide +kernel
theorem dX12_distance_30 : decode cX12_distance 30 = .ok (.aload_n 0, 1) := by decide +kernel
theorem dX12_distance_31 : decode cX12_distance 31 = .ok (.invokevirtual 273, 3) := by decide +kernel
theorem dX12_distance_34 : decode cX12_distance 34 = .ok (.ifCond .eq 6, 3) := by decide +kernel
theorem dX12_distance_37 : decode cX12_distance 37 = .ok (.bipush (-6), 2) := by decide +kernel
theorem dX12_distance_39 : decode cX12_distance 39 = .ok (.ireturn, 1) := by decide +kernel
theorem dX12_distance_40 : decode cX12_distance 40 = .ok (.aload_n 0, 1) := by decide +kernel
theorem dX12_distance_41 : decode cX12_distance 41 = .ok (.getfield 26, 3) := by decide +kernel
theorem dX12_distance_44 : decode cX12_distance 44 = .ok (.iload_n 1, 1) := by decide +kernel
theorem dX12_distance_45 : decode cX12_distance 45 = .ok (.iaload, 1) := by decide +kernel
theorem dX12_distance_46 : decode cX12_distance 46 = .ok (.iconst 3, 1) := by decide +kernel
theorem dX12_distance_47 : decode cX12_distance 47 = .ok (.if_icmp .ne 13, 3) := by decide +kernel
theorem dX12_distance_50 : decode cX12_distance 50 = .ok (.aload_n 0, 1) := by decide +kernel
theorem dX12_distance_51 : decode cX12_distance 51 = .ok (.getfield 26, 3) := by decide +kernel
theorem dX12_distance_54 : decode cX12_distance 54 = .ok (.iload_n 2, 1) := by decide +kernel
theorem dX12_distance_55 : decode cX12_distance 55 = .ok (.iaload, 1) := by decide +kernel
theorem dX12_distance_56 : decode cX12_distance 56 = .ok (.iconst 3, 1) := by decide +kernel
theorem dX12_distance_57 : decode cX12_distance 57 = .ok (.if_icmp .eq 9, 3) := by decide +kernel
theorem dX12_distance_60 : decode cX12_distance 60 = .ok (.aload_n 0, 1) := by decide +kernel
theorem dX12_distance_61 : decode cX12_distance 61 = .ok (.iconst 3, 1) := by decide +kernel
theorem dX12_distance_62 : decode cX12_distance 62 = .ok (.invokevirtual 207, 3) := by decide +kernel
theorem dX12_distance_65 : decode cX12_distance 65 = .ok (.ireturn, 1) := by decide +kernel
theorem dX12_distance_66 : decode cX12_distance 66 = .ok (.aload_n 0, 1) := by decide +kernel
theorem dX12_distance_67 : decode cX12_distance 67 = .ok (.iload_n 1, 1) := by decide +kernel
theorem dX12_distance_68 : decode cX12_distance 68 = .ok (.iload_n 3, 1) := by decide +kernel
theorem dX12_distance_69 : decode cX12_distance 69 = .ok (.invokevirtual 270, 3) := by decide +kernel
theorem dX12_distance_72 : decode cX12_distance 72 = .ok (.bipush (-9), 2) := by decide +kernel
theorem dX12_distance_74 : decode cX12_distance 74 = .ok (.if_icmp .eq 18, 3) := by decide +kernel
theorem dX12_distance_77 : decode cX12_distance 77 = .ok (.aload_n 0, 1) := by decide +kernel
theorem dX12_distance_78 : decode cX12_distance 78 = .ok (.iload_n 1, 1) := by decide +kernel
theorem dX12_distance_79 : decode cX12_distance 79 = .ok (.iload_n 3, 1) := by decide +kernel
theorem dX12_distance_80 : decode cX12_distance 80 = .ok (.invokevirtual 270, 3) := by decide +kernel
theorem dX12_distance_83 : decode cX12_distance 83 = .ok (.aload_n 0, 1) := by decide +kernel
theorem dX12_distance_84 : decode cX12_distance 84 = .ok (.iload_n 2, 1) := by decide +kernel
theorem dX12_distance_85 : decode cX12_distance 85 = .ok (.iload_n 3, 1) := by decide +kernel
theorem dX12_distance_86 : decode cX12_distance 86 = .ok (.invokevirtual 270, 3) := by decide +kernel
theorem dX12_distance_89 : decode cX12_distance 89 = .ok (.if_icmp .eq 5, 3) := by decide +kernel
theorem dX12_distance_92 : decode cX12_distance 92 = .ok (.iconst (-1), 1) := by decide +kernel
theorem dX12_distance_93 : decode cX12_distance 93 = .ok (.ireturn, 1) := by decide +kernel
theorem dX12_distance_94 : decode cX12_distance 94 = .ok (.aload_n 0, 1) := by decide +kernel
theorem dX12_distance_95 : decode cX12_distance 95 = .ok (.invokevirtual 282, 3) := by decide +kernel
theorem dX12_distance_98 : decode cX12_distance 98 = .ok (.iconst 0, 1) := by decide +kernel
theorem dX12_distance_99 : decode cX12_distance 99 = .ok (.istore 5, 2) := by decide +kernel
theorem dX12_distance_101 : decode cX12_distance 101 = .ok (.lconst 0, 1) := by decide +kernel
theorem dX12_distance_102 : decode cX12_distance 102 = .ok (.lstore 6, 2) := by decide +kernel
theorem dX12_distance_104 : decode cX12_distance 104 = .ok (.iconst 0, 1) := by decide +kernel
theorem dX12_distance_105 : decode cX12_distance 105 = .ok (.istore 8, 2) := by decide +kernel
theorem dX12_distance_107 : decode cX12_distance 107 = .ok (.iload 8, 2) := by decide +kernel
theorem dX12_distance_109 : decode cX12_distance 109 = .ok (.aload_n 0, 1) := by decide +kernel
theorem dX12_distance_110 : decode cX12_distance 110 = .ok (.getfield 239, 3) := by decide +kernel
theorem dX12_distance_113 : decode cX12_distance 113 = .ok (.if_icmp .ge 156, 3) := by decide +kernel
theorem dX12_distance_116 : decode cX12_distance 116 = .ok (.iconst 0, 1) := by decide +kernel
theorem dX12_distance_117 : decode cX12_distance 117 = .ok (.istore 9, 2) := by decide +kernel
theorem dX12_distance_119 : decode cX12_distance 119 = .ok (.iload 9, 2) := by decide +kernel
theorem dX12_distance_121 : decode cX12_distance 121 = .ok (.iload 8, 2) := by decide +kernel
theorem dX12_distance_123 : decode cX12_distance 123 = .ok (.if_icmp .ge 140, 3) := by decide +kernel
theorem dX12_distance_126 : decode cX12_distance 126 = .ok (.aload_n 0, 1) := by decide +kernel
theorem dX12_distance_127 : decode cX12_distance 127 = .ok (.getfield 78, 3) := by decide +kernel
theorem dX12_distance_130 : decode cX12_distance 130 = .ok (.iload 8, 2) := by decide +kernel
theorem dX12_distance_132 : decode cX12_distance 132 = .ok (.iaload, 1) := by decide +kernel
theorem dX12_distance_133 : decode cX12_distance 133 = .ok (.iload_n 2, 1) := by decide +kernel
theorem dX12_distance_134 : decode cX12_distance 134 = .ok (.if_icmp .ne 129, 3) := by decide +kernel
theorem dX12_distance_137 : decode cX12_distance 137 = .ok (.aload_n 0, 1) := by decide +kernel
theorem dX12_distance_138 : decode cX12_distance 138 = .ok (.getfield 78, 3) := by decide +kernel
theorem dX12_distance_141 : decode cX12_distance 141 = .ok (.iload 9, 2) := by decide +kernel
theorem dX12_distance_143 : decode cX12_distance 143 = .ok (.iaload, 1) := by decide +kernel
theorem dX12_distance_144 : decode cX12_distance 144 = .ok (.iload_n 1, 1) := by decide +kernel
theorem dX12_distance_145 : decode cX12_distance 145 = .ok (.if_icmp .ne 43, 3) := by decide +kernel
theorem dX12_distance_148 : decode cX12_distance 148 = .ok (.aload_n 0, 1) := by decide +kernel
theorem dX12_distance_149 : decode cX12_distance 149 = .ok (.iload 9, 2) := by decide +kernel
theorem dX12_distance_151 : decode cX12_distance 151 = .ok (.iload 8, 2) := by decide +kernel
theorem dX12_distance_153 : decode cX12_distance 153 = .ok (.iconst 0, 1) := by decide +kernel
theorem dX12_distance_154 : decode cX12_distance 154 = .ok (.invokevirtual 285, 3) := by decide +kernel
theorem dX12_distance_157 : decode cX12_distance 157 = .ok (.ifCond .ne 27, 3) := by decide +kernel
theorem dX12_distance_160 : decode cX12_distance 160 = .ok (.aload_n 0, 1) := by decide +kernel
theorem dX12_distance_161 : decode cX12_distance 161 = .ok (.iload 9, 2) := by decide +kernel
theorem dX12_distance_163 : decode cX12_distance 163 = .ok (.iload 8, 2) := by decide +kernel
theorem dX12_distance_165 : decode cX12_distance 165 = .ok (.iconst 1, 1) := by decide +kernel
theorem dX12_distance_166 : decode cX12_distance 166 = .ok (.invokevirtual 285, 3) := by decide +kernel
theorem dX12_distance_169 : decode cX12_distance 169 = .ok (.ifCond .ne 15, 3) := by decide +kernel
theorem dX12_distance_172 : decode cX12_distance 172 = .ok (.aload_n 0, 1) := by decide +kernel
theorem dX12_distance_173 : decode cX12_distance 173 = .ok (.iload 9, 2) := by decide +kernel
theorem dX12_distance_175 : decode cX12_distance 175 = .ok (.iload 8, 2) := by decide +kernel
theorem dX12_distance_177 : decode cX12_distance 177 = .ok (.iconst 2, 1) := by decide +kernel
theorem dX12_distance_178 : decode cX12_distance 178 = .ok (.invokevirtual 285, 3) := by decide +kernel
theorem dX12_distance_181 : decode cX12_distance 181 = .ok (.ifCond .eq 7, 3) := by decide +kernel
theorem dX12_distance_184 : decode cX12_distance 184 = .ok (.iconst 1, 1) := by decide +kernel
theorem dX12_distance_185 : decode cX12_distance 185 = .ok (.goto 4, 3) := by decide +kernel
theorem dX12_distance_188 : decode cX12_distance 188 = .ok (.iconst 0, 1) := by decide +kernel
theorem dX12_distance_189 : decode cX12_distance 189 = .ok (.istore 10, 2) := by decide +kernel
theorem dX12_distance_191 : decode cX12_distance 191 = .ok (.aload_n 0, 1) := by decide +kernel
theorem dX12_distance_192 : decode cX12_distance 192 = .ok (.getfield 81, 3) := by decide +kernel
theorem dX12_distance_195 : decode cX12_distance 195 = .ok (.iconst 4, 1) := by decide +kernel
theorem dX12_distance_196 : decode cX12_distance 196 = .ok (.iload 8, 2) := by decide +kernel
theorem dX12_distance_198 : decode cX12_distance 198 = .ok (.imul, 1) := by decide +kernel
theorem dX12_distance_199 : decode cX12_distance 199 = .ok (.iload_n 3, 1) := by decide +kernel
theorem dX12_distance_200 : decode cX12_distance 200 = .ok (.iadd, 1) := by decide +kernel
theorem dX12_distance_201 : decode cX12_distance 201 = .ok (.laload, 1) := by decide +kernel
theorem dX12_distance_202 : decode cX12_distance 202 = .ok (.aload_n 0, 1) := by decide +kernel
theorem dX12_distance_203 : decode cX12_distance 203 = .ok (.getfield 81, 3) := by decide +kernel
theorem dX12_distance_206 : decode cX12_distance 206 = .ok (.iconst 4, 1) := by decide +kernel
theorem dX12_distance_207 : decode cX12_distance 207 = .ok (.iload 9, 2) := by decide +kernel
theorem dX12_distance_209 : decode cX12_distance 209 = .ok (.imul, 1) := by decide +kernel
theorem dX12_distance_210 : decode cX12_distance 210 = .ok (.iload_n 3, 1) := by decide +kernel
theorem dX12_distance_211 : decode cX12_distance 211 = .ok (.iadd, 1) := by decide +kernel
theorem dX12_distance_212 : decode cX12_distance 212 = .ok (.laload, 1) := by decide +kernel
theorem dX12_distance_213 : decode cX12_distance 213 = .ok (.lsub, 1) := by decide +kernel
theorem dX12_distance_214 : decode cX12_distance 214 = .ok (.lstore 11, 2) := by decide +kernel
theorem dX12_distance_216 : decode cX12_distance 216 = .ok (.iload 10, 2) := by decide +kernel
theorem dX12_distance_218 : decode cX12_distance 218 = .ok (.ifCond .eq 39, 3) := by decide +kernel
theorem dX12_distance_221 : decode cX12_distance 221 = .ok (.iload 5, 2) := by decide +kernel
theorem dX12_distance_223 : decode cX12_distance 223 = .ok (.ifCond .eq 27, 3) := by decide +kernel
theorem dX12_distance_226 : decode cX12_distance 226 = .ok (.iload 4, 2) := by decide +kernel
theorem dX12_distance_228 : decode cX12_distance 228 = .ok (.ifCond .eq 14, 3) := by decide +kernel
theorem dX12_distance_231 : decode cX12_distance 231 = .ok (.lload 11, 2) := by decide +kernel
theorem dX12_distance_233 : decode cX12_distance 233 = .ok (.lload 6, 2) := by decide +kernel
theorem dX12_distance_235 : decode cX12_distance 235 = .ok (.lcmp, 1) := by decide +kernel
theorem dX12_distance_236 : decode cX12_distance 236 = .ok (.ifCond .le 21, 3) := by decide +kernel
theorem dX12_distance_239 : decode cX12_distance 239 = .ok (.goto 11, 3) := by decide +kernel
theorem dX12_distance_242 : decode cX12_distance 242 = .ok (.lload 11, 2) := by decide +kernel
theorem dX12_distance_244 : decode cX12_distance 244 = .ok (.lload 6, 2) := by decide +kernel
theorem dX12_distance_246 : decode cX12_distance 246 = .ok (.lcmp, 1) := by decide +kernel
theorem dX12_distance_247 : decode cX12_distance 247 = .ok (.ifCond .ge 10, 3) := by decide +kernel
theorem dX12_distance_250 : decode cX12_distance 250 = .ok (.lload 11, 2) := by decide +kernel
theorem dX12_distance_252 : decode cX12_distance 252 = .ok (.lstore 6, 2) := by decide +kernel
theorem dX12_distance_254 : decode cX12_distance 254 = .ok (.iconst 1, 1) := by decide +kernel
theorem dX12_distance_255 : decode cX12_distance 255 = .ok (.istore 5, 2) := by decide +kernel
theorem dX12_distance_257 : decode cX12_distance 257 = .ok (.iinc 9 1, 3) := by decide +kernel
theorem dX12_distance_260 : decode cX12_distance 260 = .ok (.goto (-141), 3) := by decide +kernel
theorem dX12_distance_263 : decode cX12_distance 263 = .ok (.iinc 8 1, 3) := by decide +kernel
theorem dX12_distance_266 : decode cX12_distance 266 = .ok (.goto (-159), 3) := by decide +kernel
theorem dX12_distance_269 : decode cX12_distance 269 = .ok (.iload 5, 2) := by decide +kernel
theorem dX12_distance_271 : decode cX12_distance 271 = .ok (.ifCond .ne 6, 3) := by decide +kernel
theorem dX12_distance_274 : decode cX12_distance 274 = .ok (.bipush (-9), 2) := by decide +kernel
theorem dX12_distance_276 : decode cX12_distance 276 = .ok (.ireturn, 1) := by decide +kernel
theorem dX12_distance_277 : decode cX12_distance 277 = .ok (.aload_n 0, 1) := by decide +kernel
theorem dX12_distance_278 : decode cX12_distance 278 = .ok (.lload 6, 2) := by decide +kernel
theorem dX12_distance_280 : decode cX12_distance 280 = .ok (.putfield 228, 3) := by decide +kernel
theorem dX12_distance_283 : decode cX12_distance 283 = .ok (.iconst 1, 1) := by decide +kernel
theorem dX12_distance_284 : decode cX12_distance 284 = .ok (.ireturn, 1) := by decide +kernel
theorem dX12_isIn_0 : decode cX12_isIn 0 = .ok (.aload_n 0, 1) := by decide +kernel
theorem dX12_isIn_1 : decode cX12_isIn 1 = .ok (.getfield 29, 3) := by decide +kernel
theorem dX12_isIn_4 : decode cX12_isIn 4 = .ok (.iload_n 1, 1) := by decide +kernel
theorem dX12_isIn_5 : decode cX12_isIn 5 = .ok (.iaload, 1) := by decide +kernel
theorem dX12_isIn_6 : decode cX12_isIn 6 = .ok (.istore_n 3, 1) := by decide +kernel
theorem dX12_isIn_7 : decode cX12_isIn 7 = .ok (.iload_n 3, 1) := by decide +kernel
theorem dX12_isIn_8 : decode cX12_isIn 8 = .ok (.bipush (-9), 2) := by decide +kernel
theorem dX12_isIn_10 : decode cX12_isIn 10 = .ok (.if_icmp .eq 18, 3) := by decide +kernel
theorem dX12_isIn_13 : decode cX12_isIn 13 = .ok (.iload_n 3, 1) := by decide +kernel
theorem dX12_isIn_14 : decode cX12_isIn 14 = .ok (.iload_n 2, 1) := by decide +kernel
theorem dX12_isIn_15 : decode cX12_isIn 15 = .ok (.if_icmp .eq 13, 3) := by decide +kernel
theorem dX12_isIn_18 : decode cX12_isIn 18 = .ok (.aload_n 0, 1) := by decide +kernel
theorem dX12_isIn_19 : decode cX12_isIn 19 = .ok (.getfield 29, 3) := by decide +kernel
theorem dX12_isIn_22 : decode cX12_isIn 22 = .ok (.iload_n 3, 1) := by decide +kernel
theorem dX12_isIn_23 : decode cX12_isIn 23 = .ok (.iaload, 1) := by decide +kernel
theorem dX12_isIn_24 : decode cX12_isIn 24 = .ok (.istore_n 3, 1) := by decide +kernel
theorem dX12_isIn_25 : decode cX12_isIn 25 = .ok (.goto (-18), 3) := by decide +kernel
theorem dX12_isIn_28 : decode cX12_isIn 28 = .ok (.iload_n 3, 1) := by decide +kernel
theorem dX12_isIn_29 : decode cX12_isIn 29 = .ok (.iload_n 2, 1) := by decide +kernel
theorem dX12_isIn_30 : decode cX12_isIn 30 = .ok (.if_icmp .ne 7, 3) := by decide +kernel
theorem dX12_isIn_33 : decode cX12_isIn 33 = .ok (.iconst 1, 1) := by decide +kernel
theorem dX12_isIn_34 : decode cX12_isIn 34 = .ok (.goto 4, 3) := by decide +kernel
theorem dX12_isIn_37 : decode cX12_isIn 37 = .ok (.iconst 0, 1) := by decide +kernel
theorem dX12_isIn_38 : decode cX12_isIn 38 = .ok (.ireturn, 1) := by decide +kernel
theorem dX12_free_0 : decode cX12_free 0 = .ok (.aload_n 0, 1) := by decide +kernel
theorem dX12_free_1 : decode cX12_free 1 = .ok (.iload_n 1, 1) := by decide +kernel
theorem dX12_free_2 : decode cX12_free 2 = .ok (.invokevirtual 177, 3) := by decide +kernel
theorem dX12_free_5 : decode cX12_free 5 = .ok (.ifCond .ne 5, 3) := by decide +kernel
theorem dX12_free_8 : decode cX12_free 8 = .ok (.iconst (-1), 1) := by decide +kernel
theorem dX12_free_9 : decode cX12_free 9 = .ok (.ireturn, 1) := by decide +kernel
theorem dX12_free_10 : decode cX12_free 10 = .ok (.aload_n 0, 1) := by decide +kernel
theorem dX12_free_11 : decode cX12_free 11 = .ok (.invokevirtual 273, 3) := by decide +kernel
theorem dX12_free_14 : decode cX12_free 14 = .ok (.ifCond .eq 6, 3) := by decide +kernel
theorem dX12_free_17 : decode cX12_free 17 = .ok (.bipush (-6), 2) := by decide +kernel
theorem dX12_free_19 : decode cX12_free 19 = .ok (.ireturn, 1) := by decide +kernel
theorem dX12_free_20 : decode cX12_free 20 = .ok (.aload_n 0, 1) := by decide +kernel
theorem dX12_free_21 : decode cX12_free 21 = .ok (.iload_n 1, 1) := by decide +kernel
theorem dX12_free_22 : decode cX12_free 22 = .ok (.invokevirtual 173, 3) := by decide +kernel
theorem dX12_free_25 : decode cX12_free 25 = .ok (.ifCond .ne 9, 3) := by decide +kernel
theorem dX12_free_28 : decode cX12_free 28 = .ok (.aload_n 0, 1) := by decide +kernel
theorem dX12_free_29 : decode cX12_free 29 = .ok (.iconst 3, 1) := by decide +kernel
theorem dX12_free_30 : decode cX12_free 30 = .ok (.invokevirtual 207, 3) := by decide +kernel
theorem dX12_free_33 : decode cX12_free 33 = .ok (.ireturn, 1) := by decide +kernel
theorem dX12_free_34 : decode cX12_free 34 = .ok (.aload_n 0, 1) := by decide +kernel
theorem dX12_free_35 : decode cX12_free 35 = .ok (.invokevirtual 282, 3) := by decide +kernel
theorem dX12_free_38 : decode cX12_free 38 = .ok (.iconst 0, 1) := by decide +kernel
theorem dX12_free_39 : decode cX12_free 39 = .ok (.istore_n 2, 1) := by decide +kernel
theorem dX12_free_40 : decode cX12_free 40 = .ok (.iload_n 2, 1) := by decide +kernel
theorem dX12_free_41 : decode cX12_free 41 = .ok (.aload_n 0, 1) := by decide +kernel
theorem dX12_free_42 : decode cX12_free 42 = .ok (.getfield 239, 3) := by decide +kernel
theorem dX12_free_45 : decode cX12_free 45 = .ok (.if_icmp .ge 109, 3) := by decide +kernel
theorem dX12_free_48 : decode cX12_free 48 = .ok (.iconst 0, 1) := by decide +kernel
theorem dX12_free_49 : decode cX12_free 49 = .ok (.istore_n 3, 1) := by decide +kernel
theorem dX12_free_50 : decode cX12_free 50 = .ok (.iload_n 3, 1) := by decide +kernel
theorem dX12_free_51 : decode cX12_free 51 = .ok (.iload_n 2, 1) := by decide +kernel
theorem dX12_free_52 : decode cX12_free 52 = .ok (.if_icmp .ge 96, 3) := by decide +kernel
theorem dX12_free_55 : decode cX12_free 55 = .ok (.aload_n 0, 1) := by decide +kernel
theorem dX12_free_56 : decode cX12_free 56 = .ok (.aload_n 0, 1) := by decide +kernel
theorem dX12_free_57 : decode cX12_free 57 = .ok (.getfield 78, 3) := by decide +kernel
theorem dX12_free_60 : decode cX12_free 60 = .ok (.iload_n 3, 1) := by decide +kernel
theorem dX12_free_61 : decode cX12_free 61 = .ok (.iaload, 1) := by decide +kernel
theorem dX12_free_62 : decode cX12_free 62 = .ok (.iload_n 1, 1) := by decide +kernel
theorem dX12_free_63 : decode cX12_free 63 = .ok (.invokevirtual 292, 3) := by decide +kernel
theorem dX12_free_66 : decode cX12_free 66 = .ok (.ifCond .eq 36, 3) := by decide +kernel
theorem dX12_free_69 : decode cX12_free 69 = .ok (.aload_n 0, 1) := by decide +kernel
theorem dX12_free_70 : decode cX12_free 70 = .ok (.aload_n 0, 1) := by decide +kernel
theorem dX12_free_71 : decode cX12_free 71 = .ok (.getfield 78, 3) := by decide +kernel
theorem dX12_free_74 : decode cX12_free 74 = .ok (.iload_n 2, 1) := by decide +kernel
theorem dX12_free_75 : decode cX12_free 75 = .ok (.iaload, 1) := by decide +kernel
theorem dX12_free_76 : decode cX12_free 76 = .ok (.iload_n 1, 1) := by decide +kernel
theorem dX12_free_77 : decode cX12_free 77 = .ok (.invokevirtual 292, 3) := by decide +kernel
theorem dX12_free_80 : decode cX12_free 80 = .ok (.ifCond .eq 22, 3) := by decide +kernel
theorem dX12_free_83 : decode cX12_free 83 = .ok (.aload_n 0, 1) := by decide +kernel
theorem dX12_free_84 : decode cX12_free 84 = .ok (.iload_n 3, 1) := by decide +kernel
theorem dX12_free_85 : decode cX12_free 85 = .ok (.iload_n 2, 1) := by decide +kernel
theorem dX12_free_86 : decode cX12_free 86 = .ok (.invokevirtual 289, 3) := by decide +kernel
theorem dX12_free_89 : decode cX12_free 89 = .ok (.aload_n 0, 1) := by decide +kernel
theorem dX12_free_90 : decode cX12_free 90 = .ok (.getfield 32, 3) := by decide +kernel
theorem dX12_free_93 : decode cX12_free 93 = .ok (.iload_n 1, 1) := by decide +kernel
theorem dX12_free_94 : decode cX12_free 94 = .ok (.iaload, 1) := by decide +kernel
theorem dX12_free_95 : decode cX12_free 95 = .ok (.if_icmp .ne 7, 3) := by decide +kernel
theorem dX12_free_98 : decode cX12_free 98 = .ok (.iconst 1, 1) := by decide +kernel
theorem dX12_free_99 : decode cX12_free 99 = .ok (.goto 4, 3) := by decide +kernel
theorem dX12_free_102 : decode cX12_free 102 = .ok (.iconst 0, 1) := by decide +kernel
theorem dX12_free_103 : decode cX12_free 103 = .ok (.istore 4, 2) := by decide +kernel
theorem dX12_free_105 : decode cX12_free 105 = .ok (.iload 4, 2) := by decide +kernel
theorem dX12_free_107 : decode cX12_free 107 = .ok (.ifCond .eq 35, 3) := by decide +kernel
theorem dX12_free_110 : decode cX12_free 110 = .ok (.aload_n 0, 1) := by decide +kernel
theorem dX12_free_111 : decode cX12_free 111 = .ok (.iload_n 3, 1) := by decide +kernel
theorem dX12_free_112 : decode cX12_free 112 = .ok (.iload_n 2, 1) := by decide +kernel
theorem dX12_free_113 : decode cX12_free 113 = .ok (.iconst 0, 1) := by decide +kernel
theorem dX12_free_114 : decode cX12_free 114 = .ok (.invokevirtual 285, 3) := by decide +kernel
theorem dX12_free_117 : decode cX12_free 117 = .ok (.ifCond .ne 23, 3) := by decide +kernel
theorem dX12_free_120 : decode cX12_free 120 = .ok (.aload_n 0, 1) := by decide +kernel
theorem dX12_free_121 : decode cX12_free 121 = .ok (.iload_n 3, 1) := by decide +kernel
theorem dX12_free_122 : decode cX12_free 122 = .ok (.iload_n 2, 1) := by decide +kernel
theorem dX12_free_123 : decode cX12_free 123 = .ok (.iconst 1, 1) := by decide +kernel
theorem dX12_free_124 : decode cX12_free 124 = .ok (.invokevirtual 285, 3) := by decide +kernel
theorem dX12_free_127 : decode cX12_free 127 = .ok (.ifCond .ne 13, 3) := by decide +kernel
theorem dX12_free_130 : decode cX12_free 130 = .ok (.aload_n 0, 1) := by decide +kernel
theorem dX12_free_131 : decode cX12_free 131 = .ok (.iload_n 3, 1) := by decide +kernel
theorem dX12_free_132 : decode cX12_free 132 = .ok (.iload_n 2, 1) := by decide +kernel
theorem dX12_free_133 : decode cX12_free 133 = .ok (.iconst 2, 1) := by decide +kernel
theorem dX12_free_134 : decode cX12_free 134 = .ok (.invokevirtual 285, 3) := by decide +kernel
theorem dX12_free_137 : decode cX12_free 137 = .ok (.ifCond .eq 5, 3) := by decide +kernel
theorem dX12_free_140 : decode cX12_free 140 = .ok (.iconst 0, 1) := by decide +kernel
theorem dX12_free_141 : decode cX12_free 141 = .ok (.ireturn, 1) := by decide +kernel
theorem dX12_free_142 : decode cX12_free 142 = .ok (.iinc 3 1, 3) := by decide +kernel
theorem dX12_free_145 : decode cX12_free 145 = .ok (.goto (-95), 3) := by decide +kernel
theorem dX12_free_148 : decode cX12_free 148 = .ok (.iinc 2 1, 3) := by decide +kernel
theorem dX12_free_151 : decode cX12_free 151 = .ok (.goto (-111), 3) := by decide +kernel
theorem dX12_free_154 : decode cX12_free 154 = .ok (.iconst 1, 1) := by decide +kernel
theorem dX12_free_155 : decode cX12_free 155 = .ok (.ireturn, 1) := by decide +kernel
theorem dX12_rowAt_0 : decode cX12_rowAt 0 = .ok (.bipush 7, 2) := by decide +kernel
theorem dX12_rowAt_2 : decode cX12_rowAt 2 = .ok (.bipush 16, 2) := by decide +kernel
theorem dX12_rowAt_4 : decode cX12_rowAt 4 = .ok (.iload_n 0, 1) := by decide +kernel
theorem dX12_rowAt_5 : decode cX12_rowAt 5 = .ok (.imul, 1) := by decide +kernel
theorem dX12_rowAt_6 : decode cX12_rowAt 6 = .ok (.iload_n 1, 1) := by decide +kernel
theorem dX12_rowAt_7 : decode cX12_rowAt 7 = .ok (.iadd, 1) := by decide +kernel
theorem dX12_rowAt_8 : decode cX12_rowAt 8 = .ok (.imul, 1) := by decide +kernel
theorem dX12_rowAt_9 : decode cX12_rowAt 9 = .ok (.ireturn, 1) := by decide +kernel
theorem dX12_setRow_0 : decode cX12_setRow 0 = .ok (.iload_n 1, 1) := by decide +kernel
theorem dX12_setRow_1 : decode cX12_setRow 1 = .ok (.iload_n 2, 1) := by decide +kernel
theorem dX12_setRow_2 : decode cX12_setRow 2 = .ok (.invokestatic 295, 3) := by decide +kernel
theorem dX12_setRow_5 : decode cX12_setRow 5 = .ok (.istore 5, 2) := by decide +kernel
theorem dX12_setRow_7 : decode cX12_setRow 7 = .ok (.iconst 0, 1) := by decide +kernel
