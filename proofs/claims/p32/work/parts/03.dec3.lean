theorem dL_pieces_245 : decode cL_pieces 245 = .ok (.lload_n 2, 1) := by decide +kernel
theorem dL_pieces_246 : decode cL_pieces 246 = .ok (.iload 8, 2) := by decide +kernel
theorem dL_pieces_248 : decode cL_pieces 248 = .ok (.iconst 1, 1) := by decide +kernel
theorem dL_pieces_249 : decode cL_pieces 249 = .ok (.iadd, 1) := by decide +kernel
theorem dL_pieces_250 : decode cL_pieces 250 = .ok (.iload 9, 2) := by decide +kernel
theorem dL_pieces_252 : decode cL_pieces 252 = .ok (.invokestatic 40, 3) := by decide +kernel
theorem dL_pieces_255 : decode cL_pieces 255 = .ok (.isub, 1) := by decide +kernel
theorem dL_pieces_256 : decode cL_pieces 256 = .ok (.lload_n 2, 1) := by decide +kernel
theorem dL_pieces_257 : decode cL_pieces 257 = .ok (.iload 8, 2) := by decide +kernel
theorem dL_pieces_259 : decode cL_pieces 259 = .ok (.iload 9, 2) := by decide +kernel
theorem dL_pieces_261 : decode cL_pieces 261 = .ok (.iconst 1, 1) := by decide +kernel
theorem dL_pieces_262 : decode cL_pieces 262 = .ok (.isub, 1) := by decide +kernel
theorem dL_pieces_263 : decode cL_pieces 263 = .ok (.invokestatic 40, 3) := by decide +kernel
theorem dL_pieces_266 : decode cL_pieces 266 = .ok (.isub, 1) := by decide +kernel
theorem dL_pieces_267 : decode cL_pieces 267 = .ok (.lload_n 2, 1) := by decide +kernel
theorem dL_pieces_268 : decode cL_pieces 268 = .ok (.iload 8, 2) := by decide +kernel
theorem dL_pieces_270 : decode cL_pieces 270 = .ok (.iload 9, 2) := by decide +kernel
theorem dL_pieces_272 : decode cL_pieces 272 = .ok (.iconst 1, 1) := by decide +kernel
theorem dL_pieces_273 : decode cL_pieces 273 = .ok (.iadd, 1) := by decide +kernel
theorem dL_pieces_274 : decode cL_pieces 274 = .ok (.invokestatic 40, 3) := by decide +kernel
theorem dL_pieces_277 : decode cL_pieces 277 = .ok (.isub, 1) := by decide +kernel
theorem dL_pieces_278 : decode cL_pieces 278 = .ok (.goto 4, 3) := by decide +kernel
theorem dL_pieces_281 : decode cL_pieces 281 = .ok (.iconst 0, 1) := by decide +kernel
theorem dL_pieces_282 : decode cL_pieces 282 = .ok (.iadd, 1) := by decide +kernel
theorem dL_pieces_283 : decode cL_pieces 283 = .ok (.istore 7, 2) := by decide +kernel
theorem dL_pieces_285 : decode cL_pieces 285 = .ok (.iload 10, 2) := by decide +kernel
theorem dL_pieces_287 : decode cL_pieces 287 = .ok (.ifCond .eq 32, 3) := by decide +kernel
theorem dL_pieces_290 : decode cL_pieces 290 = .ok (.lload_n 2, 1) := by decide +kernel
theorem dL_pieces_291 : decode cL_pieces 291 = .ok (.iload 8, 2) := by decide +kernel
theorem dL_pieces_293 : decode cL_pieces 293 = .ok (.iload 9, 2) := by decide +kernel
theorem dL_pieces_295 : decode cL_pieces 295 = .ok (.iconst 1, 1) := by decide +kernel
theorem dL_pieces_296 : decode cL_pieces 296 = .ok (.iadd, 1) := by decide +kernel
theorem dL_pieces_297 : decode cL_pieces 297 = .ok (.invokestatic 40, 3) := by decide +kernel
theorem dL_pieces_300 : decode cL_pieces 300 = .ok (.ifCond .eq 19, 3) := by decide +kernel
theorem dL_pieces_303 : decode cL_pieces 303 = .ok (.aload_n 0, 1) := by decide +kernel
theorem dL_pieces_304 : decode cL_pieces 304 = .ok (.iload 8, 2) := by decide +kernel
theorem dL_pieces_306 : decode cL_pieces 306 = .ok (.iload 9, 2) := by decide +kernel
theorem dL_pieces_308 : decode cL_pieces 308 = .ok (.iconst 1, 1) := by decide +kernel
theorem dL_pieces_309 : decode cL_pieces 309 = .ok (.iadd, 1) := by decide +kernel
theorem dL_pieces_310 : decode cL_pieces 310 = .ok (.iconst 2, 1) := by decide +kernel
theorem dL_pieces_311 : decode cL_pieces 311 = .ok (.invokevirtual 30, 3) := by decide +kernel
theorem dL_pieces_314 : decode cL_pieces 314 = .ok (.iload 11, 2) := by decide +kernel
theorem dL_pieces_316 : decode cL_pieces 316 = .ok (.if_icmp .ne 7, 3) := by decide +kernel
theorem dL_pieces_319 : decode cL_pieces 319 = .ok (.iconst 1, 1) := by decide +kernel
theorem dL_pieces_320 : decode cL_pieces 320 = .ok (.goto 4, 3) := by decide +kernel
theorem dL_pieces_323 : decode cL_pieces 323 = .ok (.iconst 0, 1) := by decide +kernel
theorem dL_pieces_324 : decode cL_pieces 324 = .ok (.istore 12, 2) := by decide +kernel
theorem dL_pieces_326 : decode cL_pieces 326 = .ok (.iload 10, 2) := by decide +kernel
theorem dL_pieces_328 : decode cL_pieces 328 = .ok (.ifCond .eq 32, 3) := by decide +kernel
theorem dL_pieces_331 : decode cL_pieces 331 = .ok (.lload_n 2, 1) := by decide +kernel
theorem dL_pieces_332 : decode cL_pieces 332 = .ok (.iload 8, 2) := by decide +kernel
theorem dL_pieces_334 : decode cL_pieces 334 = .ok (.iconst 1, 1) := by decide +kernel
theorem dL_pieces_335 : decode cL_pieces 335 = .ok (.iadd, 1) := by decide +kernel
theorem dL_pieces_336 : decode cL_pieces 336 = .ok (.iload 9, 2) := by decide +kernel
theorem dL_pieces_338 : decode cL_pieces 338 = .ok (.invokestatic 40, 3) := by decide +kernel
theorem dL_pieces_341 : decode cL_pieces 341 = .ok (.ifCond .eq 19, 3) := by decide +kernel
theorem dL_pieces_344 : decode cL_pieces 344 = .ok (.aload_n 0, 1) := by decide +kernel
theorem dL_pieces_345 : decode cL_pieces 345 = .ok (.iload 8, 2) := by decide +kernel
theorem dL_pieces_347 : decode cL_pieces 347 = .ok (.iconst 1, 1) := by decide +kernel
theorem dL_pieces_348 : decode cL_pieces 348 = .ok (.iadd, 1) := by decide +kernel
theorem dL_pieces_349 : decode cL_pieces 349 = .ok (.iload 9, 2) := by decide +kernel
theorem dL_pieces_351 : decode cL_pieces 351 = .ok (.iconst 2, 1) := by decide +kernel
theorem dL_pieces_352 : decode cL_pieces 352 = .ok (.invokevirtual 30, 3) := by decide +kernel
theorem dL_pieces_355 : decode cL_pieces 355 = .ok (.iload 11, 2) := by decide +kernel
theorem dL_pieces_357 : decode cL_pieces 357 = .ok (.if_icmp .ne 7, 3) := by decide +kernel
theorem dL_pieces_360 : decode cL_pieces 360 = .ok (.iconst 1, 1) := by decide +kernel
theorem dL_pieces_361 : decode cL_pieces 361 = .ok (.goto 4, 3) := by decide +kernel
theorem dL_pieces_364 : decode cL_pieces 364 = .ok (.iconst 0, 1) := by decide +kernel
theorem dL_pieces_365 : decode cL_pieces 365 = .ok (.istore 13, 2) := by decide +kernel
theorem dL_pieces_367 : decode cL_pieces 367 = .ok (.iload 10, 2) := by decide +kernel
theorem dL_pieces_369 : decode cL_pieces 369 = .ok (.ifCond .ne 13, 3) := by decide +kernel
theorem dL_pieces_372 : decode cL_pieces 372 = .ok (.iload 11, 2) := by decide +kernel
theorem dL_pieces_374 : decode cL_pieces 374 = .ok (.bipush (-9), 2) := by decide +kernel
theorem dL_pieces_376 : decode cL_pieces 376 = .ok (.if_icmp .eq 29, 3) := by decide +kernel
theorem dL_pieces_379 : decode cL_pieces 379 = .ok (.goto 24, 3) := by decide +kernel
theorem dL_pieces_382 : decode cL_pieces 382 = .ok (.iload 11, 2) := by decide +kernel
theorem dL_pieces_384 : decode cL_pieces 384 = .ok (.ifCond .lt 19, 3) := by decide +kernel
theorem dL_pieces_387 : decode cL_pieces 387 = .ok (.iload 11, 2) := by decide +kernel
theorem dL_pieces_389 : decode cL_pieces 389 = .ok (.iload_n 1, 1) := by decide +kernel
theorem dL_pieces_390 : decode cL_pieces 390 = .ok (.if_icmp .ge 13, 3) := by decide +kernel
theorem dL_pieces_393 : decode cL_pieces 393 = .ok (.iload 12, 2) := by decide +kernel
theorem dL_pieces_395 : decode cL_pieces 395 = .ok (.ifCond .eq 8, 3) := by decide +kernel
theorem dL_pieces_398 : decode cL_pieces 398 = .ok (.iload 13, 2) := by decide +kernel
theorem dL_pieces_400 : decode cL_pieces 400 = .ok (.ifCond .ne 5, 3) := by decide +kernel
theorem dL_pieces_403 : decode cL_pieces 403 = .ok (.iconst 0, 1) := by decide +kernel
theorem dL_pieces_404 : decode cL_pieces 404 = .ok (.ireturn, 1) := by decide +kernel
theorem dL_pieces_405 : decode cL_pieces 405 = .ok (.iinc 9 1, 3) := by decide +kernel
theorem dL_pieces_408 : decode cL_pieces 408 = .ok (.goto (-214), 3) := by decide +kernel
theorem dL_pieces_411 : decode cL_pieces 411 = .ok (.iinc 8 1, 3) := by decide +kernel
theorem dL_pieces_414 : decode cL_pieces 414 = .ok (.goto (-233), 3) := by decide +kernel
theorem dL_pieces_417 : decode cL_pieces 417 = .ok (.iload 4, 2) := by decide +kernel
theorem dL_pieces_419 : decode cL_pieces 419 = .ok (.lload_n 2, 1) := by decide +kernel
theorem dL_pieces_420 : decode cL_pieces 420 = .ok (.invokestatic 51, 3) := by decide +kernel
theorem dL_pieces_423 : decode cL_pieces 423 = .ok (.if_icmp .ne 25, 3) := by decide +kernel
theorem dL_pieces_426 : decode cL_pieces 426 = .ok (.iload 5, 2) := by decide +kernel
theorem dL_pieces_428 : decode cL_pieces 428 = .ok (.iload 7, 2) := by decide +kernel
theorem dL_pieces_430 : decode cL_pieces 430 = .ok (.if_icmp .ne 18, 3) := by decide +kernel
theorem dL_pieces_433 : decode cL_pieces 433 = .ok (.aload_n 0, 1) := by decide +kernel
theorem dL_pieces_434 : decode cL_pieces 434 = .ok (.bipush 8, 2) := by decide +kernel
theorem dL_pieces_436 : decode cL_pieces 436 = .ok (.invokevirtual 27, 3) := by decide +kernel
theorem dL_pieces_439 : decode cL_pieces 439 = .ok (.iload 7, 2) := by decide +kernel
theorem dL_pieces_441 : decode cL_pieces 441 = .ok (.if_icmp .ne 7, 3) := by decide +kernel
theorem dL_pieces_444 : decode cL_pieces 444 = .ok (.iconst 1, 1) := by decide +kernel
theorem dL_pieces_445 : decode cL_pieces 445 = .ok (.goto 4, 3) := by decide +kernel
theorem dL_pieces_448 : decode cL_pieces 448 = .ok (.iconst 0, 1) := by decide +kernel
theorem dL_pieces_449 : decode cL_pieces 449 = .ok (.ireturn, 1) := by decide +kernel
theorem dL_hull_0 : decode cL_hull 0 = .ok (.aload_n 0, 1) := by decide +kernel
theorem dL_hull_1 : decode cL_hull 1 = .ok (.iconst 0, 1) := by decide +kernel
theorem dL_hull_2 : decode cL_hull 2 = .ok (.invokestatic 34, 3) := by decide +kernel
theorem dL_hull_5 : decode cL_hull 5 = .ok (.lstore_n 1, 1) := by decide +kernel
theorem dL_hull_6 : decode cL_hull 6 = .ok (.aload_n 0, 1) := by decide +kernel
theorem dL_hull_7 : decode cL_hull 7 = .ok (.iconst 3, 1) := by decide +kernel
theorem dL_hull_8 : decode cL_hull 8 = .ok (.invokestatic 34, 3) := by decide +kernel
theorem dL_hull_11 : decode cL_hull 11 = .ok (.lstore_n 3, 1) := by decide +kernel
theorem dL_hull_12 : decode cL_hull 12 = .ok (.iconst 0, 1) := by decide +kernel
theorem dL_hull_13 : decode cL_hull 13 = .ok (.istore 5, 2) := by decide +kernel
theorem dL_hull_15 : decode cL_hull 15 = .ok (.iload 5, 2) := by decide +kernel
theorem dL_hull_17 : decode cL_hull 17 = .ok (.bipush 12, 2) := by decide +kernel
theorem dL_hull_19 : decode cL_hull 19 = .ok (.if_icmp .ge 111, 3) := by decide +kernel
theorem dL_hull_22 : decode cL_hull 22 = .ok (.iconst 0, 1) := by decide +kernel
theorem dL_hull_23 : decode cL_hull 23 = .ok (.istore 6, 2) := by decide +kernel
theorem dL_hull_25 : decode cL_hull 25 = .ok (.iconst 0, 1) := by decide +kernel
theorem dL_hull_26 : decode cL_hull 26 = .ok (.istore 7, 2) := by decide +kernel
theorem dL_hull_28 : decode cL_hull 28 = .ok (.iload 7, 2) := by decide +kernel
theorem dL_hull_30 : decode cL_hull 30 = .ok (.bipush 6, 2) := by decide +kernel
theorem dL_hull_32 : decode cL_hull 32 = .ok (.if_icmp .ge 84, 3) := by decide +kernel
theorem dL_hull_35 : decode cL_hull 35 = .ok (.iload 5, 2) := by decide +kernel
theorem dL_hull_37 : decode cL_hull 37 = .ok (.bipush 6, 2) := by decide +kernel
theorem dL_hull_39 : decode cL_hull 39 = .ok (.if_icmp .ge 14, 3) := by decide +kernel
theorem dL_hull_42 : decode cL_hull 42 = .ok (.lload_n 3, 1) := by decide +kernel
theorem dL_hull_43 : decode cL_hull 43 = .ok (.iload 5, 2) := by decide +kernel
theorem dL_hull_45 : decode cL_hull 45 = .ok (.iload 7, 2) := by decide +kernel
theorem dL_hull_47 : decode cL_hull 47 = .ok (.invokestatic 40, 3) := by decide +kernel
theorem dL_hull_50 : decode cL_hull 50 = .ok (.goto 14, 3) := by decide +kernel
theorem dL_hull_53 : decode cL_hull 53 = .ok (.lload_n 3, 1) := by decide +kernel
theorem dL_hull_54 : decode cL_hull 54 = .ok (.iload 7, 2) := by decide +kernel
theorem dL_hull_56 : decode cL_hull 56 = .ok (.iload 5, 2) := by decide +kernel
theorem dL_hull_58 : decode cL_hull 58 = .ok (.bipush 6, 2) := by decide +kernel
theorem dL_hull_60 : decode cL_hull 60 = .ok (.isub, 1) := by decide +kernel
theorem dL_hull_61 : decode cL_hull 61 = .ok (.invokestatic 40, 3) := by decide +kernel
theorem dL_hull_64 : decode cL_hull 64 = .ok (.istore 8, 2) := by decide +kernel
theorem dL_hull_66 : decode cL_hull 66 = .ok (.iload 8, 2) := by decide +kernel
theorem dL_hull_68 : decode cL_hull 68 = .ok (.iconst 1, 1) := by decide +kernel
theorem dL_hull_69 : decode cL_hull 69 = .ok (.if_icmp .ne 27, 3) := by decide +kernel
theorem dL_hull_72 : decode cL_hull 72 = .ok (.iload 6, 2) := by decide +kernel
theorem dL_hull_74 : decode cL_hull 74 = .ok (.iconst 2, 1) := by decide +kernel
theorem dL_hull_75 : decode cL_hull 75 = .ok (.if_icmp .ne 7, 3) := by decide +kernel
theorem dL_hull_78 : decode cL_hull 78 = .ok (.iconst 3, 1) := by decide +kernel
theorem dL_hull_79 : decode cL_hull 79 = .ok (.goto 29, 3) := by decide +kernel
theorem dL_hull_82 : decode cL_hull 82 = .ok (.iload 6, 2) := by decide +kernel
theorem dL_hull_84 : decode cL_hull 84 = .ok (.iconst 3, 1) := by decide +kernel
theorem dL_hull_85 : decode cL_hull 85 = .ok (.if_icmp .ne 7, 3) := by decide +kernel
theorem dL_hull_88 : decode cL_hull 88 = .ok (.iconst 3, 1) := by decide +kernel
theorem dL_hull_89 : decode cL_hull 89 = .ok (.goto 19, 3) := by decide +kernel
theorem dL_hull_92 : decode cL_hull 92 = .ok (.iconst 1, 1) := by decide +kernel
theorem dL_hull_93 : decode cL_hull 93 = .ok (.goto 15, 3) := by decide +kernel
theorem dL_hull_96 : decode cL_hull 96 = .ok (.iload 6, 2) := by decide +kernel
theorem dL_hull_98 : decode cL_hull 98 = .ok (.iconst 1, 1) := by decide +kernel
theorem dL_hull_99 : decode cL_hull 99 = .ok (.if_icmp .ne 7, 3) := by decide +kernel
theorem dL_hull_102 : decode cL_hull 102 = .ok (.iconst 2, 1) := by decide +kernel
theorem dL_hull_103 : decode cL_hull 103 = .ok (.goto 5, 3) := by decide +kernel
theorem dL_hull_106 : decode cL_hull 106 = .ok (.iload 6, 2) := by decide +kernel
theorem dL_hull_108 : decode cL_hull 108 = .ok (.istore 6, 2) := by decide +kernel
theorem dL_hull_110 : decode cL_hull 110 = .ok (.iinc 7 1, 3) := by decide +kernel
theorem dL_hull_113 : decode cL_hull 113 = .ok (.goto (-85), 3) := by decide +kernel
theorem dL_hull_116 : decode cL_hull 116 = .ok (.iload 6, 2) := by decide +kernel
theorem dL_hull_118 : decode cL_hull 118 = .ok (.iconst 3, 1) := by decide +kernel
theorem dL_hull_119 : decode cL_hull 119 = .ok (.if_icmp .ne 5, 3) := by decide +kernel
theorem dL_hull_122 : decode cL_hull 122 = .ok (.iconst 0, 1) := by decide +kernel
theorem dL_hull_123 : decode cL_hull 123 = .ok (.ireturn, 1) := by decide +kernel
theorem dL_hull_124 : decode cL_hull 124 = .ok (.iinc 5 1, 3) := by decide +kernel
theorem dL_hull_127 : decode cL_hull 127 = .ok (.goto (-112), 3) := by decide +kernel
theorem dL_hull_130 : decode cL_hull 130 = .ok (.lload_n 1, 1) := by decide +kernel
theorem dL_hull_131 : decode cL_hull 131 = .ok (.lload_n 3, 1) := by decide +kernel
theorem dL_hull_132 : decode cL_hull 132 = .ok (.ldc2_w 58, 3) := by decide +kernel
theorem dL_hull_135 : decode cL_hull 135 = .ok (.lxor, 1) := by decide +kernel
theorem dL_hull_136 : decode cL_hull 136 = .ok (.land, 1) := by decide +kernel
theorem dL_hull_137 : decode cL_hull 137 = .ok (.lconst 0, 1) := by decide +kernel
theorem dL_hull_138 : decode cL_hull 138 = .ok (.lcmp, 1) := by decide +kernel
theorem dL_hull_139 : decode cL_hull 139 = .ok (.ifCond .ne 45, 3) := by decide +kernel
theorem dL_hull_142 : decode cL_hull 142 = .ok (.aload_n 0, 1) := by decide +kernel
theorem dL_hull_143 : decode cL_hull 143 = .ok (.bipush 9, 2) := by decide +kernel
theorem dL_hull_145 : decode cL_hull 145 = .ok (.invokevirtual 27, 3) := by decide +kernel
theorem dL_hull_148 : decode cL_hull 148 = .ok (.lload_n 3, 1) := by decide +kernel
theorem dL_hull_149 : decode cL_hull 149 = .ok (.invokestatic 51, 3) := by decide +kernel
theorem dL_hull_152 : decode cL_hull 152 = .ok (.if_icmp .ne 32, 3) := by decide +kernel
theorem dL_hull_155 : decode cL_hull 155 = .ok (.lload_n 1, 1) := by decide +kernel
theorem dL_hull_156 : decode cL_hull 156 = .ok (.lconst 0, 1) := by decide +kernel
theorem dL_hull_157 : decode cL_hull 157 = .ok (.lcmp, 1) := by decide +kernel
theorem dL_hull_158 : decode cL_hull 158 = .ok (.ifCond .ne 7, 3) := by decide +kernel
theorem dL_hull_161 : decode cL_hull 161 = .ok (.iconst 1, 1) := by decide +kernel
theorem dL_hull_162 : decode cL_hull 162 = .ok (.goto 4, 3) := by decide +kernel
theorem dL_hull_165 : decode cL_hull 165 = .ok (.iconst 0, 1) := by decide +kernel
theorem dL_hull_166 : decode cL_hull 166 = .ok (.lload_n 3, 1) := by decide +kernel
theorem dL_hull_167 : decode cL_hull 167 = .ok (.lconst 0, 1) := by decide +kernel
theorem dL_hull_168 : decode cL_hull 168 = .ok (.lcmp, 1) := by decide +kernel
theorem dL_hull_169 : decode cL_hull 169 = .ok (.ifCond .ne 7, 3) := by decide +kernel
theorem dL_hull_172 : decode cL_hull 172 = .ok (.iconst 1, 1) := by decide +kernel
theorem dL_hull_173 : decode cL_hull 173 = .ok (.goto 4, 3) := by decide +kernel
theorem dL_hull_176 : decode cL_hull 176 = .ok (.iconst 0, 1) := by decide +kernel
theorem dL_hull_177 : decode cL_hull 177 = .ok (.if_icmp .ne 7, 3) := by decide +kernel
theorem dL_hull_180 : decode cL_hull 180 = .ok (.iconst 1, 1) := by decide +kernel
theorem dL_hull_181 : decode cL_hull 181 = .ok (.goto 4, 3) := by decide +kernel
theorem dL_hull_184 : decode cL_hull 184 = .ok (.iconst 0, 1) := by decide +kernel
theorem dL_hull_185 : decode cL_hull 185 = .ok (.ireturn, 1) := by decide +kernel
theorem dL_exchanges_0 : decode cL_exchanges 0 = .ok (.aload_n 0, 1) := by decide +kernel
theorem dL_exchanges_1 : decode cL_exchanges 1 = .ok (.bipush 10, 2) := by decide +kernel
theorem dL_exchanges_3 : decode cL_exchanges 3 = .ok (.invokevirtual 27, 3) := by decide +kernel
theorem dL_exchanges_6 : decode cL_exchanges 6 = .ok (.istore_n 2, 1) := by decide +kernel
theorem dL_exchanges_7 : decode cL_exchanges 7 = .ok (.iconst (-1), 1) := by decide +kernel
theorem dL_exchanges_8 : decode cL_exchanges 8 = .ok (.istore_n 3, 1) := by decide +kernel
theorem dL_exchanges_9 : decode cL_exchanges 9 = .ok (.iconst 0, 1) := by decide +kernel
theorem dL_exchanges_10 : decode cL_exchanges 10 = .ok (.istore 4, 2) := by decide +kernel
theorem dL_exchanges_12 : decode cL_exchanges 12 = .ok (.iload 4, 2) := by decide +kernel
theorem dL_exchanges_14 : decode cL_exchanges 14 = .ok (.iload_n 2, 1) := by decide +kernel
theorem dL_exchanges_15 : decode cL_exchanges 15 = .ok (.if_icmp .ge 61, 3) := by decide +kernel
theorem dL_exchanges_18 : decode cL_exchanges 18 = .ok (.aload_n 0, 1) := by decide +kernel
theorem dL_exchanges_19 : decode cL_exchanges 19 = .ok (.iload 4, 2) := by decide +kernel
theorem dL_exchanges_21 : decode cL_exchanges 21 = .ok (.invokevirtual 60, 3) := by decide +kernel
theorem dL_exchanges_24 : decode cL_exchanges 24 = .ok (.istore 5, 2) := by decide +kernel
theorem dL_exchanges_26 : decode cL_exchanges 26 = .ok (.iload 5, 2) := by decide +kernel
theorem dL_exchanges_28 : decode cL_exchanges 28 = .ok (.iload_n 3, 1) := by decide +kernel
theorem dL_exchanges_29 : decode cL_exchanges 29 = .ok (.if_icmp .le 36, 3) := by decide +kernel
theorem dL_exchanges_32 : decode cL_exchanges 32 = .ok (.iload 5, 2) := by decide +kernel
theorem dL_exchanges_34 : decode cL_exchanges 34 = .ok (.sipush 1000, 3) := by decide +kernel
theorem dL_exchanges_37 : decode cL_exchanges 37 = .ok (.idiv, 1) := by decide +kernel
theorem dL_exchanges_38 : decode cL_exchanges 38 = .ok (.iload 5, 2) := by decide +kernel
theorem dL_exchanges_40 : decode cL_exchanges 40 = .ok (.bipush 100, 2) := by decide +kernel
theorem dL_exchanges_42 : decode cL_exchanges 42 = .ok (.idiv, 1) := by decide +kernel
theorem dL_exchanges_43 : decode cL_exchanges 43 = .ok (.bipush 10, 2) := by decide +kernel
theorem dL_exchanges_45 : decode cL_exchanges 45 = .ok (.irem, 1) := by decide +kernel
theorem dL_exchanges_46 : decode cL_exchanges 46 = .ok (.if_icmp .ge 19, 3) := by decide +kernel
theorem dL_exchanges_49 : decode cL_exchanges 49 = .ok (.iload 5, 2) := by decide +kernel
theorem dL_exchanges_51 : decode cL_exchanges 51 = .ok (.bipush 10, 2) := by decide +kernel
theorem dL_exchanges_53 : decode cL_exchanges 53 = .ok (.idiv, 1) := by decide +kernel
theorem dL_exchanges_54 : decode cL_exchanges 54 = .ok (.bipush 10, 2) := by decide +kernel
theorem dL_exchanges_56 : decode cL_exchanges 56 = .ok (.irem, 1) := by decide +kernel
theorem dL_exchanges_57 : decode cL_exchanges 57 = .ok (.iload 5, 2) := by decide +kernel
theorem dL_exchanges_59 : decode cL_exchanges 59 = .ok (.bipush 10, 2) := by decide +kernel
theorem dL_exchanges_61 : decode cL_exchanges 61 = .ok (.irem, 1) := by decide +kernel
theorem dL_exchanges_62 : decode cL_exchanges 62 = .ok (.if_icmp .lt 5, 3) := by decide +kernel
theorem dL_exchanges_65 : decode cL_exchanges 65 = .ok (.iconst 0, 1) := by decide +kernel
theorem dL_exchanges_66 : decode cL_exchanges 66 = .ok (.ireturn, 1) := by decide +kernel
theorem dL_exchanges_67 : decode cL_exchanges 67 = .ok (.iload 5, 2) := by decide +kernel
theorem dL_exchanges_69 : decode cL_exchanges 69 = .ok (.istore_n 3, 1) := by decide +kernel
theorem dL_exchanges_70 : decode cL_exchanges 70 = .ok (.iinc 4 1, 3) := by decide +kernel
theorem dL_exchanges_73 : decode cL_exchanges 73 = .ok (.goto (-61), 3) := by decide +kernel
theorem dL_exchanges_76 : decode cL_exchanges 76 = .ok (.aload_n 0, 1) := by decide +kernel
theorem dL_exchanges_77 : decode cL_exchanges 77 = .ok (.invokevirtual 63, 3) := by decide +kernel
theorem dL_exchanges_80 : decode cL_exchanges 80 = .ok (.istore 4, 2) := by decide +kernel
theorem dL_exchanges_82 : decode cL_exchanges 82 = .ok (.aload_n 0, 1) := by decide +kernel
theorem dL_exchanges_83 : decode cL_exchanges 83 = .ok (.iload_n 2, 1) := by decide +kernel
theorem dL_exchanges_84 : decode cL_exchanges 84 = .ok (.invokevirtual 60, 3) := by decide +kernel
theorem dL_exchanges_87 : decode cL_exchanges 87 = .ok (.bipush (-9), 2) := by decide +kernel
theorem dL_exchanges_89 : decode cL_exchanges 89 = .ok (.if_icmp .ne 28, 3) := by decide +kernel
theorem dL_exchanges_92 : decode cL_exchanges 92 = .ok (.iload 4, 2) := by decide +kernel
theorem dL_exchanges_94 : decode cL_exchanges 94 = .ok (.ifCond .ge 17, 3) := by decide +kernel
theorem dL_exchanges_97 : decode cL_exchanges 97 = .ok (.iload_n 2, 1) := by decide +kernel
theorem dL_exchanges_98 : decode cL_exchanges 98 = .ok (.ifCond .gt 19, 3) := by decide +kernel
theorem dL_exchanges_101 : decode cL_exchanges 101 = .ok (.iload 4, 2) := by decide +kernel
theorem dL_exchanges_103 : decode cL_exchanges 103 = .ok (.bipush (-9), 2) := by decide +kernel
theorem dL_exchanges_105 : decode cL_exchanges 105 = .ok (.if_icmp .eq 14, 3) := by decide +kernel
theorem dL_exchanges_108 : decode cL_exchanges 108 = .ok (.goto 9, 3) := by decide +kernel
theorem dL_exchanges_111 : decode cL_exchanges 111 = .ok (.iload 4, 2) := by decide +kernel
theorem dL_exchanges_113 : decode cL_exchanges 113 = .ok (.iload_n 2, 1) := by decide +kernel
theorem dL_exchanges_114 : decode cL_exchanges 114 = .ok (.if_icmp .lt 5, 3) := by decide +kernel
theorem dL_exchanges_117 : decode cL_exchanges 117 = .ok (.iconst 0, 1) := by decide +kernel
theorem dL_exchanges_118 : decode cL_exchanges 118 = .ok (.ireturn, 1) := by decide +kernel
theorem dL_exchanges_119 : decode cL_exchanges 119 = .ok (.iload_n 2, 1) := by decide +kernel
theorem dL_exchanges_120 : decode cL_exchanges 120 = .ok (.ifCond .ne 5, 3) := by decide +kernel
theorem dL_exchanges_123 : decode cL_exchanges 123 = .ok (.iconst 1, 1) := by decide +kernel
theorem dL_exchanges_124 : decode cL_exchanges 124 = .ok (.ireturn, 1) := by decide +kernel
theorem dL_exchanges_125 : decode cL_exchanges 125 = .ok (.aload_n 0, 1) := by decide +kernel
theorem dL_exchanges_126 : decode cL_exchanges 126 = .ok (.iconst 0, 1) := by decide +kernel
theorem dL_exchanges_127 : decode cL_exchanges 127 = .ok (.invokestatic 34, 3) := by decide +kernel
theorem dL_exchanges_130 : decode cL_exchanges 130 = .ok (.lstore 5, 2) := by decide +kernel
theorem dL_exchanges_132 : decode cL_exchanges 132 = .ok (.aload_n 0, 1) := by decide +kernel
theorem dL_exchanges_133 : decode cL_exchanges 133 = .ok (.iload_n 1, 1) := by decide +kernel
theorem dL_exchanges_134 : decode cL_exchanges 134 = .ok (.iload_n 2, 1) := by decide +kernel
theorem dL_exchanges_135 : decode cL_exchanges 135 = .ok (.invokestatic 66, 3) := by decide +kernel
theorem dL_exchanges_138 : decode cL_exchanges 138 = .ok (.invokevirtual 60, 3) := by decide +kernel
theorem dL_exchanges_141 : decode cL_exchanges 141 = .ok (.istore 7, 2) := by decide +kernel
theorem dL_exchanges_143 : decode cL_exchanges 143 = .ok (.aload_n 0, 1) := by decide +kernel
theorem dL_exchanges_144 : decode cL_exchanges 144 = .ok (.iload 4, 2) := by decide +kernel
theorem dL_exchanges_146 : decode cL_exchanges 146 = .ok (.invokevirtual 60, 3) := by decide +kernel
theorem dL_exchanges_149 : decode cL_exchanges 149 = .ok (.istore 8, 2) := by decide +kernel
theorem dL_exchanges_151 : decode cL_exchanges 151 = .ok (.aload_n 0, 1) := by decide +kernel
theorem dL_exchanges_152 : decode cL_exchanges 152 = .ok (.iload 7, 2) := by decide +kernel
theorem dL_exchanges_154 : decode cL_exchanges 154 = .ok (.sipush 1000, 3) := by decide +kernel
theorem dL_exchanges_157 : decode cL_exchanges 157 = .ok (.idiv, 1) := by decide +kernel
theorem dL_exchanges_158 : decode cL_exchanges 158 = .ok (.iload 7, 2) := by decide +kernel
theorem dL_exchanges_160 : decode cL_exchanges 160 = .ok (.bipush 100, 2) := by decide +kernel
theorem dL_exchanges_162 : decode cL_exchanges 162 = .ok (.idiv, 1) := by decide +kernel
theorem dL_exchanges_163 : decode cL_exchanges 163 = .ok (.bipush 10, 2) := by decide +kernel
theorem dL_exchanges_165 : decode cL_exchanges 165 = .ok (.irem, 1) := by decide +kernel
theorem dL_exchanges_166 : decode cL_exchanges 166 = .ok (.iload 7, 2) := by decide +kernel
theorem dL_exchanges_168 : decode cL_exchanges 168 = .ok (.bipush 10, 2) := by decide +kernel
theorem dL_exchanges_170 : decode cL_exchanges 170 = .ok (.idiv, 1) := by decide +kernel
theorem dL_exchanges_171 : decode cL_exchanges 171 = .ok (.bipush 10, 2) := by decide +kernel
theorem dL_exchanges_173 : decode cL_exchanges 173 = .ok (.irem, 1) := by decide +kernel
theorem dL_exchanges_174 : decode cL_exchanges 174 = .ok (.iload 7, 2) := by decide +kernel
theorem dL_exchanges_176 : decode cL_exchanges 176 = .ok (.bipush 10, 2) := by decide +kernel
theorem dL_exchanges_178 : decode cL_exchanges 178 = .ok (.irem, 1) := by decide +kernel
theorem dL_exchanges_179 : decode cL_exchanges 179 = .ok (.invokevirtual 69, 3) := by decide +kernel
theorem dL_exchanges_182 : decode cL_exchanges 182 = .ok (.istore 9, 2) := by decide +kernel
theorem dL_exchanges_184 : decode cL_exchanges 184 = .ok (.aload_n 0, 1) := by decide +kernel
theorem dL_exchanges_185 : decode cL_exchanges 185 = .ok (.bipush 8, 2) := by decide +kernel
theorem dL_exchanges_187 : decode cL_exchanges 187 = .ok (.invokevirtual 27, 3) := by decide +kernel
theorem dL_exchanges_190 : decode cL_exchanges 190 = .ok (.istore 10, 2) := by decide +kernel
theorem dL_exchanges_192 : decode cL_exchanges 192 = .ok (.aload_n 0, 1) := by decide +kernel
theorem dL_exchanges_193 : decode cL_exchanges 193 = .ok (.iconst 0, 1) := by decide +kernel
theorem dL_exchanges_194 : decode cL_exchanges 194 = .ok (.invokestatic 34, 3) := by decide +kernel
theorem dL_exchanges_197 : decode cL_exchanges 197 = .ok (.lstore 11, 2) := by decide +kernel
theorem dL_exchanges_199 : decode cL_exchanges 199 = .ok (.iload 9, 2) := by decide +kernel
theorem dL_exchanges_201 : decode cL_exchanges 201 = .ok (.aload_n 0, 1) := by decide +kernel
theorem dL_exchanges_202 : decode cL_exchanges 202 = .ok (.bipush 7, 2) := by decide +kernel
theorem dL_exchanges_204 : decode cL_exchanges 204 = .ok (.invokevirtual 27, 3) := by decide +kernel
theorem dL_exchanges_207 : decode cL_exchanges 207 = .ok (.if_icmp .ne 116, 3) := by decide +kernel
theorem dL_exchanges_210 : decode cL_exchanges 210 = .ok (.lload 5, 2) := by decide +kernel
theorem dL_exchanges_212 : decode cL_exchanges 212 = .ok (.lload 11, 2) := by decide +kernel
theorem dL_exchanges_214 : decode cL_exchanges 214 = .ok (.lxor, 1) := by decide +kernel
theorem dL_exchanges_215 : decode cL_exchanges 215 = .ok (.invokestatic 51, 3) := by decide +kernel
theorem dL_exchanges_218 : decode cL_exchanges 218 = .ok (.iconst 4, 1) := by decide +kernel
theorem dL_exchanges_219 : decode cL_exchanges 219 = .ok (.if_icmp .ne 104, 3) := by decide +kernel
theorem dL_exchanges_222 : decode cL_exchanges 222 = .ok (.lload 5, 2) := by decide +kernel
theorem dL_exchanges_224 : decode cL_exchanges 224 = .ok (.invokestatic 51, 3) := by decide +kernel
theorem dL_exchanges_227 : decode cL_exchanges 227 = .ok (.lload 11, 2) := by decide +kernel
theorem dL_exchanges_229 : decode cL_exchanges 229 = .ok (.invokestatic 51, 3) := by decide +kernel
theorem dL_exchanges_232 : decode cL_exchanges 232 = .ok (.if_icmp .ne 91, 3) := by decide +kernel
theorem dL_exchanges_235 : decode cL_exchanges 235 = .ok (.aload_n 0, 1) := by decide +kernel
theorem dL_exchanges_236 : decode cL_exchanges 236 = .ok (.invokestatic 73, 3) := by decide +kernel
theorem dL_exchanges_239 : decode cL_exchanges 239 = .ok (.ifCond .eq 84, 3) := by decide +kernel
theorem dL_exchanges_242 : decode cL_exchanges 242 = .ok (.aload_n 0, 1) := by decide +kernel
theorem dL_exchanges_243 : decode cL_exchanges 243 = .ok (.iload 7, 2) := by decide +kernel
theorem dL_exchanges_245 : decode cL_exchanges 245 = .ok (.sipush 1000, 3) := by decide +kernel
theorem dL_exchanges_248 : decode cL_exchanges 248 = .ok (.idiv, 1) := by decide +kernel
theorem dL_exchanges_249 : decode cL_exchanges 249 = .ok (.iload 7, 2) := by decide +kernel
theorem dL_exchanges_251 : decode cL_exchanges 251 = .ok (.bipush 100, 2) := by decide +kernel
theorem dL_exchanges_253 : decode cL_exchanges 253 = .ok (.idiv, 1) := by decide +kernel
theorem dL_exchanges_254 : decode cL_exchanges 254 = .ok (.bipush 10, 2) := by decide +kernel
theorem dL_exchanges_256 : decode cL_exchanges 256 = .ok (.irem, 1) := by decide +kernel
theorem dL_exchanges_257 : decode cL_exchanges 257 = .ok (.iload 7, 2) := by decide +kernel
theorem dL_exchanges_259 : decode cL_exchanges 259 = .ok (.bipush 10, 2) := by decide +kernel
theorem dL_exchanges_261 : decode cL_exchanges 261 = .ok (.idiv, 1) := by decide +kernel
theorem dL_exchanges_262 : decode cL_exchanges 262 = .ok (.bipush 10, 2) := by decide +kernel
theorem dL_exchanges_264 : decode cL_exchanges 264 = .ok (.irem, 1) := by decide +kernel
theorem dL_exchanges_265 : decode cL_exchanges 265 = .ok (.iload 7, 2) := by decide +kernel
theorem dL_exchanges_267 : decode cL_exchanges 267 = .ok (.bipush 10, 2) := by decide +kernel
theorem dL_exchanges_269 : decode cL_exchanges 269 = .ok (.irem, 1) := by decide +kernel
theorem dL_exchanges_270 : decode cL_exchanges 270 = .ok (.invokevirtual 69, 3) := by decide +kernel
theorem dL_exchanges_273 : decode cL_exchanges 273 = .ok (.ifCond .lt 50, 3) := by decide +kernel
theorem dL_exchanges_276 : decode cL_exchanges 276 = .ok (.aload_n 0, 1) := by decide +kernel
theorem dL_exchanges_277 : decode cL_exchanges 277 = .ok (.iconst 0, 1) := by decide +kernel
theorem dL_exchanges_278 : decode cL_exchanges 278 = .ok (.invokestatic 34, 3) := by decide +kernel
theorem dL_exchanges_281 : decode cL_exchanges 281 = .ok (.lload 5, 2) := by decide +kernel
theorem dL_exchanges_283 : decode cL_exchanges 283 = .ok (.lcmp, 1) := by decide +kernel
theorem dL_exchanges_284 : decode cL_exchanges 284 = .ok (.ifCond .ne 39, 3) := by decide +kernel
theorem dL_exchanges_287 : decode cL_exchanges 287 = .ok (.aload_n 0, 1) := by decide +kernel
theorem dL_exchanges_288 : decode cL_exchanges 288 = .ok (.invokevirtual 24, 3) := by decide +kernel
theorem dL_exchanges_291 : decode cL_exchanges 291 = .ok (.ifCond .lt 32, 3) := by decide +kernel
theorem dL_exchanges_294 : decode cL_exchanges 294 = .ok (.aload_n 0, 1) := by decide +kernel
theorem dL_exchanges_295 : decode cL_exchanges 295 = .ok (.iconst 0, 1) := by decide +kernel
theorem dL_exchanges_296 : decode cL_exchanges 296 = .ok (.invokestatic 34, 3) := by decide +kernel
theorem dL_exchanges_299 : decode cL_exchanges 299 = .ok (.lload 11, 2) := by decide +kernel
theorem dL_exchanges_301 : decode cL_exchanges 301 = .ok (.lcmp, 1) := by decide +kernel
theorem dL_exchanges_302 : decode cL_exchanges 302 = .ok (.ifCond .ne 21, 3) := by decide +kernel
theorem dL_exchanges_305 : decode cL_exchanges 305 = .ok (.aload_n 0, 1) := by decide +kernel
theorem dL_exchanges_306 : decode cL_exchanges 306 = .ok (.invokevirtual 24, 3) := by decide +kernel
theorem dL_exchanges_309 : decode cL_exchanges 309 = .ok (.ifCond .lt 14, 3) := by decide +kernel
theorem dL_exchanges_312 : decode cL_exchanges 312 = .ok (.aload_n 0, 1) := by decide +kernel
theorem dL_exchanges_313 : decode cL_exchanges 313 = .ok (.iconst 0, 1) := by decide +kernel
theorem dL_exchanges_314 : decode cL_exchanges 314 = .ok (.invokestatic 34, 3) := by decide +kernel
theorem dL_exchanges_317 : decode cL_exchanges 317 = .ok (.lload 5, 2) := by decide +kernel
theorem dL_exchanges_319 : decode cL_exchanges 319 = .ok (.lcmp, 1) := by decide +kernel
theorem dL_exchanges_320 : decode cL_exchanges 320 = .ok (.ifCond .eq 5, 3) := by decide +kernel
theorem dL_exchanges_323 : decode cL_exchanges 323 = .ok (.iconst 0, 1) := by decide +kernel
theorem dL_exchanges_324 : decode cL_exchanges 324 = .ok (.ireturn, 1) := by decide +kernel
theorem dL_exchanges_325 : decode cL_exchanges 325 = .ok (.aload_n 0, 1) := by decide +kernel
theorem dL_exchanges_326 : decode cL_exchanges 326 = .ok (.iload 8, 2) := by decide +kernel
theorem dL_exchanges_328 : decode cL_exchanges 328 = .ok (.sipush 1000, 3) := by decide +kernel
theorem dL_exchanges_331 : decode cL_exchanges 331 = .ok (.idiv, 1) := by decide +kernel
theorem dL_exchanges_332 : decode cL_exchanges 332 = .ok (.iload 8, 2) := by decide +kernel
theorem dL_exchanges_334 : decode cL_exchanges 334 = .ok (.bipush 100, 2) := by decide +kernel
theorem dL_exchanges_336 : decode cL_exchanges 336 = .ok (.idiv, 1) := by decide +kernel
theorem dL_exchanges_337 : decode cL_exchanges 337 = .ok (.bipush 10, 2) := by decide +kernel
theorem dL_exchanges_339 : decode cL_exchanges 339 = .ok (.irem, 1) := by decide +kernel
theorem dL_exchanges_340 : decode cL_exchanges 340 = .ok (.iload 8, 2) := by decide +kernel
theorem dL_exchanges_342 : decode cL_exchanges 342 = .ok (.bipush 10, 2) := by decide +kernel
theorem dL_exchanges_344 : decode cL_exchanges 344 = .ok (.idiv, 1) := by decide +kernel
theorem dL_exchanges_345 : decode cL_exchanges 345 = .ok (.bipush 10, 2) := by decide +kernel
theorem dL_exchanges_347 : decode cL_exchanges 347 = .ok (.irem, 1) := by decide +kernel
theorem dL_exchanges_348 : decode cL_exchanges 348 = .ok (.iload 8, 2) := by decide +kernel
theorem dL_exchanges_350 : decode cL_exchanges 350 = .ok (.bipush 10, 2) := by decide +kernel
theorem dL_exchanges_352 : decode cL_exchanges 352 = .ok (.irem, 1) := by decide +kernel
theorem dL_exchanges_353 : decode cL_exchanges 353 = .ok (.invokevirtual 69, 3) := by decide +kernel
theorem dL_exchanges_356 : decode cL_exchanges 356 = .ok (.istore 13, 2) := by decide +kernel
theorem dL_exchanges_358 : decode cL_exchanges 358 = .ok (.aload_n 0, 1) := by decide +kernel
theorem dL_exchanges_359 : decode cL_exchanges 359 = .ok (.bipush 8, 2) := by decide +kernel
theorem dL_exchanges_361 : decode cL_exchanges 361 = .ok (.invokevirtual 27, 3) := by decide +kernel
theorem dL_exchanges_364 : decode cL_exchanges 364 = .ok (.istore 14, 2) := by decide +kernel
theorem dL_exchanges_366 : decode cL_exchanges 366 = .ok (.aload_n 0, 1) := by decide +kernel
theorem dL_exchanges_367 : decode cL_exchanges 367 = .ok (.invokevirtual 24, 3) := by decide +kernel
theorem dL_exchanges_370 : decode cL_exchanges 370 = .ok (.ifCond .lt 45, 3) := by decide +kernel
theorem dL_exchanges_373 : decode cL_exchanges 373 = .ok (.iload 13, 2) := by decide +kernel
theorem dL_exchanges_375 : decode cL_exchanges 375 = .ok (.iload 9, 2) := by decide +kernel
theorem dL_exchanges_377 : decode cL_exchanges 377 = .ok (.if_icmp .lt 34, 3) := by decide +kernel
theorem dL_exchanges_380 : decode cL_exchanges 380 = .ok (.iload 13, 2) := by decide +kernel
theorem dL_exchanges_382 : decode cL_exchanges 382 = .ok (.iload 9, 2) := by decide +kernel
theorem dL_exchanges_384 : decode cL_exchanges 384 = .ok (.if_icmp .ne 31, 3) := by decide +kernel
theorem dL_exchanges_387 : decode cL_exchanges 387 = .ok (.iload 14, 2) := by decide +kernel
theorem dL_exchanges_389 : decode cL_exchanges 389 = .ok (.iload 10, 2) := by decide +kernel
theorem dL_exchanges_391 : decode cL_exchanges 391 = .ok (.if_icmp .lt 20, 3) := by decide +kernel
theorem dL_exchanges_394 : decode cL_exchanges 394 = .ok (.iload 14, 2) := by decide +kernel
theorem dL_exchanges_396 : decode cL_exchanges 396 = .ok (.iload 10, 2) := by decide +kernel
theorem dL_exchanges_398 : decode cL_exchanges 398 = .ok (.if_icmp .ne 17, 3) := by decide +kernel
theorem dL_exchanges_401 : decode cL_exchanges 401 = .ok (.iload 4, 2) := by decide +kernel
theorem dL_exchanges_403 : decode cL_exchanges 403 = .ok (.iload_n 1, 1) := by decide +kernel
theorem dL_exchanges_404 : decode cL_exchanges 404 = .ok (.iload_n 2, 1) := by decide +kernel
theorem dL_exchanges_405 : decode cL_exchanges 405 = .ok (.invokestatic 66, 3) := by decide +kernel
theorem dL_exchanges_408 : decode cL_exchanges 408 = .ok (.if_icmp .gt 7, 3) := by decide +kernel
theorem dL_exchanges_411 : decode cL_exchanges 411 = .ok (.iconst 1, 1) := by decide +kernel
theorem dL_exchanges_412 : decode cL_exchanges 412 = .ok (.goto 4, 3) := by decide +kernel
theorem dL_exchanges_415 : decode cL_exchanges 415 = .ok (.iconst 0, 1) := by decide +kernel
theorem dL_exchanges_416 : decode cL_exchanges 416 = .ok (.ireturn, 1) := by decide +kernel
theorem dL_fits_0 : decode cL_fits 0 = .ok (.bipush 36, 2) := by decide +kernel
theorem dL_fits_2 : decode cL_fits 2 = .ok (.newarray .int, 2) := by decide +kernel
theorem dL_fits_4 : decode cL_fits 4 = .ok (.astore_n 1, 1) := by decide +kernel
theorem dL_fits_5 : decode cL_fits 5 = .ok (.aload_n 0, 1) := by decide +kernel
theorem dL_fits_6 : decode cL_fits 6 = .ok (.iconst 0, 1) := by decide +kernel
theorem dL_fits_7 : decode cL_fits 7 = .ok (.invokevirtual 27, 3) := by decide +kernel
theorem dL_fits_10 : decode cL_fits 10 = .ok (.istore_n 2, 1) := by decide +kernel
theorem dL_fits_11 : decode cL_fits 11 = .ok (.aload_n 0, 1) := by decide +kernel
theorem dL_fits_12 : decode cL_fits 12 = .ok (.iconst 1, 1) := by decide +kernel
theorem dL_fits_13 : decode cL_fits 13 = .ok (.invokevirtual 27, 3) := by decide +kernel
theorem dL_fits_16 : decode cL_fits 16 = .ok (.istore_n 3, 1) := by decide +kernel
theorem dL_fits_17 : decode cL_fits 17 = .ok (.aload_n 0, 1) := by decide +kernel
theorem dL_fits_18 : decode cL_fits 18 = .ok (.iconst 0, 1) := by decide +kernel
theorem dL_fits_19 : decode cL_fits 19 = .ok (.invokestatic 34, 3) := by decide +kernel
theorem dL_fits_22 : decode cL_fits 22 = .ok (.lstore 4, 2) := by decide +kernel
theorem dL_fits_24 : decode cL_fits 24 = .ok (.aload_n 0, 1) := by decide +kernel
theorem dL_fits_25 : decode cL_fits 25 = .ok (.iconst 1, 1) := by decide +kernel
theorem dL_fits_26 : decode cL_fits 26 = .ok (.invokestatic 34, 3) := by decide +kernel
theorem dL_fits_29 : decode cL_fits 29 = .ok (.lstore 6, 2) := by decide +kernel
theorem dL_fits_31 : decode cL_fits 31 = .ok (.aload_n 0, 1) := by decide +kernel
theorem dL_fits_32 : decode cL_fits 32 = .ok (.invokevirtual 77, 3) := by decide +kernel
theorem dL_fits_35 : decode cL_fits 35 = .ok (.istore 8, 2) := by decide +kernel
theorem dL_fits_37 : decode cL_fits 37 = .ok (.iload 8, 2) := by decide +kernel
theorem dL_fits_39 : decode cL_fits 39 = .ok (.ifCond .lt 23, 3) := by decide +kernel
theorem dL_fits_42 : decode cL_fits 42 = .ok (.iload 8, 2) := by decide +kernel
theorem dL_fits_44 : decode cL_fits 44 = .ok (.bipush 100, 2) := by decide +kernel
theorem dL_fits_46 : decode cL_fits 46 = .ok (.if_icmp .gt 16, 3) := by decide +kernel
theorem dL_fits_49 : decode cL_fits 49 = .ok (.aload_n 0, 1) := by decide +kernel
theorem dL_fits_50 : decode cL_fits 50 = .ok (.iconst 0, 1) := by decide +kernel
theorem dL_fits_51 : decode cL_fits 51 = .ok (.invokevirtual 80, 3) := by decide +kernel
theorem dL_fits_54 : decode cL_fits 54 = .ok (.aload_n 0, 1) := by decide +kernel
theorem dL_fits_55 : decode cL_fits 55 = .ok (.iconst 2, 1) := by decide +kernel
theorem dL_fits_56 : decode cL_fits 56 = .ok (.invokevirtual 27, 3) := by decide +kernel
theorem dL_fits_59 : decode cL_fits 59 = .ok (.if_icmp .eq 5, 3) := by decide +kernel
theorem dL_fits_62 : decode cL_fits 62 = .ok (.iconst 0, 1) := by decide +kernel
theorem dL_fits_63 : decode cL_fits 63 = .ok (.ireturn, 1) := by decide +kernel
theorem dL_fits_64 : decode cL_fits 64 = .ok (.iload 8, 2) := by decide +kernel
theorem dL_fits_66 : decode cL_fits 66 = .ok (.ifCond .ne 89, 3) := by decide +kernel
theorem dL_fits_69 : decode cL_fits 69 = .ok (.aload_n 0, 1) := by decide +kernel
theorem dL_fits_70 : decode cL_fits 70 = .ok (.iconst 1, 1) := by decide +kernel
theorem dL_fits_71 : decode cL_fits 71 = .ok (.invokevirtual 83, 3) := by decide +kernel
theorem dL_fits_74 : decode cL_fits 74 = .ok (.ifCond .ne 79, 3) := by decide +kernel
theorem dL_fits_77 : decode cL_fits 77 = .ok (.aload_n 0, 1) := by decide +kernel
theorem dL_fits_78 : decode cL_fits 78 = .ok (.iconst 0, 1) := by decide +kernel
theorem dL_fits_79 : decode cL_fits 79 = .ok (.invokevirtual 83, 3) := by decide +kernel
theorem dL_fits_82 : decode cL_fits 82 = .ok (.ifCond .ne 71, 3) := by decide +kernel
theorem dL_fits_85 : decode cL_fits 85 = .ok (.aload_n 0, 1) := by decide +kernel
theorem dL_fits_86 : decode cL_fits 86 = .ok (.invokevirtual 87, 3) := by decide +kernel
theorem dL_fits_89 : decode cL_fits 89 = .ok (.bipush (-9), 2) := by decide +kernel
theorem dL_fits_91 : decode cL_fits 91 = .ok (.if_icmp .ne 62, 3) := by decide +kernel
theorem dL_fits_94 : decode cL_fits 94 = .ok (.aload_n 0, 1) := by decide +kernel
theorem dL_fits_95 : decode cL_fits 95 = .ok (.iconst 4, 1) := by decide +kernel
theorem dL_fits_96 : decode cL_fits 96 = .ok (.invokestatic 34, 3) := by decide +kernel
theorem dL_fits_99 : decode cL_fits 99 = .ok (.lconst 0, 1) := by decide +kernel
theorem dL_fits_100 : decode cL_fits 100 = .ok (.lcmp, 1) := by decide +kernel
theorem dL_fits_101 : decode cL_fits 101 = .ok (.ifCond .ne 52, 3) := by decide +kernel
theorem dL_fits_104 : decode cL_fits 104 = .ok (.aload_n 0, 1) := by decide +kernel
theorem dL_fits_105 : decode cL_fits 105 = .ok (.iconst 0, 1) := by decide +kernel
theorem dL_fits_106 : decode cL_fits 106 = .ok (.invokestatic 90, 3) := by decide +kernel
theorem dL_fits_109 : decode cL_fits 109 = .ok (.iconst (-1), 1) := by decide +kernel
theorem dL_fits_110 : decode cL_fits 110 = .ok (.if_icmp .ne 43, 3) := by decide +kernel
theorem dL_fits_113 : decode cL_fits 113 = .ok (.aload_n 0, 1) := by decide +kernel
theorem dL_fits_114 : decode cL_fits 114 = .ok (.iconst 1, 1) := by decide +kernel
theorem dL_fits_115 : decode cL_fits 115 = .ok (.invokestatic 90, 3) := by decide +kernel
theorem dL_fits_118 : decode cL_fits 118 = .ok (.iconst (-1), 1) := by decide +kernel
theorem dL_fits_119 : decode cL_fits 119 = .ok (.if_icmp .ne 34, 3) := by decide +kernel
theorem dL_fits_122 : decode cL_fits 122 = .ok (.aload_n 0, 1) := by decide +kernel
theorem dL_fits_123 : decode cL_fits 123 = .ok (.invokestatic 94, 3) := by decide +kernel
theorem dL_fits_126 : decode cL_fits 126 = .ok (.iconst (-1), 1) := by decide +kernel
theorem dL_fits_127 : decode cL_fits 127 = .ok (.if_icmp .ne 26, 3) := by decide +kernel
theorem dL_fits_130 : decode cL_fits 130 = .ok (.aload_n 0, 1) := by decide +kernel
theorem dL_fits_131 : decode cL_fits 131 = .ok (.invokestatic 98, 3) := by decide +kernel
theorem dL_fits_134 : decode cL_fits 134 = .ok (.iconst (-1), 1) := by decide +kernel
theorem dL_fits_135 : decode cL_fits 135 = .ok (.if_icmp .ne 18, 3) := by decide +kernel
theorem dL_fits_138 : decode cL_fits 138 = .ok (.aload_n 0, 1) := by decide +kernel
theorem dL_fits_139 : decode cL_fits 139 = .ok (.iconst 0, 1) := by decide +kernel
theorem dL_fits_140 : decode cL_fits 140 = .ok (.invokestatic 34, 3) := by decide +kernel
theorem dL_fits_143 : decode cL_fits 143 = .ok (.lload 4, 2) := by decide +kernel
theorem dL_fits_145 : decode cL_fits 145 = .ok (.lcmp, 1) := by decide +kernel
theorem dL_fits_146 : decode cL_fits 146 = .ok (.ifCond .ne 7, 3) := by decide +kernel
theorem dL_fits_149 : decode cL_fits 149 = .ok (.iconst 1, 1) := by decide +kernel
theorem dL_fits_150 : decode cL_fits 150 = .ok (.goto 4, 3) := by decide +kernel
theorem dL_fits_153 : decode cL_fits 153 = .ok (.iconst 0, 1) := by decide +kernel
theorem dL_fits_154 : decode cL_fits 154 = .ok (.ireturn, 1) := by decide +kernel
theorem dL_fits_155 : decode cL_fits 155 = .ok (.lload 4, 2) := by decide +kernel
theorem dL_fits_157 : decode cL_fits 157 = .ok (.lstore 9, 2) := by decide +kernel
theorem dL_fits_159 : decode cL_fits 159 = .ok (.ldc2_w 58, 3) := by decide +kernel
theorem dL_fits_162 : decode cL_fits 162 = .ok (.lstore 11, 2) := by decide +kernel
theorem dL_fits_164 : decode cL_fits 164 = .ok (.lconst 0, 1) := by decide +kernel
theorem dL_fits_165 : decode cL_fits 165 = .ok (.lstore 13, 2) := by decide +kernel
theorem dL_fits_167 : decode cL_fits 167 = .ok (.bipush 36, 2) := by decide +kernel
theorem dL_fits_169 : decode cL_fits 169 = .ok (.istore 15, 2) := by decide +kernel
theorem dL_fits_171 : decode cL_fits 171 = .ok (.iconst 0, 1) := by decide +kernel
theorem dL_fits_172 : decode cL_fits 172 = .ok (.istore 16, 2) := by decide +kernel
theorem dL_fits_174 : decode cL_fits 174 = .ok (.iload 16, 2) := by decide +kernel
theorem dL_fits_176 : decode cL_fits 176 = .ok (.iload 8, 2) := by decide +kernel
theorem dL_fits_178 : decode cL_fits 178 = .ok (.bipush 100, 2) := by decide +kernel
theorem dL_fits_180 : decode cL_fits 180 = .ok (.if_icmp .ge 8, 3) := by decide +kernel
theorem dL_fits_183 : decode cL_fits 183 = .ok (.iload 8, 2) := by decide +kernel
theorem dL_fits_185 : decode cL_fits 185 = .ok (.goto 5, 3) := by decide +kernel
theorem dL_fits_188 : decode cL_fits 188 = .ok (.bipush 6, 2) := by decide +kernel
theorem dL_fits_190 : decode cL_fits 190 = .ok (.if_icmp .ge 179, 3) := by decide +kernel
theorem dL_fits_193 : decode cL_fits 193 = .ok (.iload 16, 2) := by decide +kernel
theorem dL_fits_195 : decode cL_fits 195 = .ok (.ifCond .ne 11, 3) := by decide +kernel
theorem dL_fits_198 : decode cL_fits 198 = .ok (.aload_n 0, 1) := by decide +kernel
theorem dL_fits_199 : decode cL_fits 199 = .ok (.iconst 0, 1) := by decide +kernel
theorem dL_fits_200 : decode cL_fits 200 = .ok (.invokestatic 90, 3) := by decide +kernel
theorem dL_fits_203 : decode cL_fits 203 = .ok (.goto 7, 3) := by decide +kernel
theorem dL_fits_206 : decode cL_fits 206 = .ok (.aload_n 0, 1) := by decide +kernel
theorem dL_fits_207 : decode cL_fits 207 = .ok (.invokestatic 94, 3) := by decide +kernel
theorem dL_fits_210 : decode cL_fits 210 = .ok (.istore 17, 2) := by decide +kernel
theorem dL_fits_212 : decode cL_fits 212 = .ok (.aload_n 0, 1) := by decide +kernel
theorem dL_fits_213 : decode cL_fits 213 = .ok (.iconst 0, 1) := by decide +kernel
theorem dL_fits_214 : decode cL_fits 214 = .ok (.invokestatic 34, 3) := by decide +kernel
theorem dL_fits_217 : decode cL_fits 217 = .ok (.lstore 18, 2) := by decide +kernel
theorem dL_fits_219 : decode cL_fits 219 = .ok (.lload 18, 2) := by decide +kernel
theorem dL_fits_221 : decode cL_fits 221 = .ok (.lload 9, 2) := by decide +kernel
theorem dL_fits_223 : decode cL_fits 223 = .ok (.lxor, 1) := by decide +kernel
theorem dL_fits_224 : decode cL_fits 224 = .ok (.lstore 20, 2) := by decide +kernel
theorem dL_fits_226 : decode cL_fits 226 = .ok (.iload 17, 2) := by decide +kernel
theorem dL_fits_228 : decode cL_fits 228 = .ok (.lload 20, 2) := by decide +kernel
theorem dL_fits_230 : decode cL_fits 230 = .ok (.invokestatic 51, 3) := by decide +kernel
theorem dL_fits_233 : decode cL_fits 233 = .ok (.if_icmp .ne 51, 3) := by decide +kernel
theorem dL_fits_236 : decode cL_fits 236 = .ok (.aload_n 0, 1) := by decide +kernel
theorem dL_fits_237 : decode cL_fits 237 = .ok (.bipush 6, 2) := by decide +kernel
theorem dL_fits_239 : decode cL_fits 239 = .ok (.invokevirtual 27, 3) := by decide +kernel
theorem dL_fits_242 : decode cL_fits 242 = .ok (.ifCond .ne 42, 3) := by decide +kernel
theorem dL_fits_245 : decode cL_fits 245 = .ok (.lload 18, 2) := by decide +kernel
theorem dL_fits_247 : decode cL_fits 247 = .ok (.lload 4, 2) := by decide +kernel
theorem dL_fits_249 : decode cL_fits 249 = .ok (.lxor, 1) := by decide +kernel
theorem dL_fits_250 : decode cL_fits 250 = .ok (.lload 6, 2) := by decide +kernel
theorem dL_fits_252 : decode cL_fits 252 = .ok (.land, 1) := by decide +kernel
theorem dL_fits_253 : decode cL_fits 253 = .ok (.lconst 0, 1) := by decide +kernel
theorem dL_fits_254 : decode cL_fits 254 = .ok (.lcmp, 1) := by decide +kernel
theorem dL_fits_255 : decode cL_fits 255 = .ok (.ifCond .ne 29, 3) := by decide +kernel
theorem dL_fits_258 : decode cL_fits 258 = .ok (.iload 16, 2) := by decide +kernel
theorem dL_fits_260 : decode cL_fits 260 = .ok (.ifCond .le 26, 3) := by decide +kernel
theorem dL_fits_263 : decode cL_fits 263 = .ok (.lload 20, 2) := by decide +kernel
theorem dL_fits_265 : decode cL_fits 265 = .ok (.lconst 0, 1) := by decide +kernel
theorem dL_fits_266 : decode cL_fits 266 = .ok (.lcmp, 1) := by decide +kernel
theorem dL_fits_267 : decode cL_fits 267 = .ok (.ifCond .eq 17, 3) := by decide +kernel
theorem dL_fits_270 : decode cL_fits 270 = .ok (.lload 20, 2) := by decide +kernel
theorem dL_fits_272 : decode cL_fits 272 = .ok (.lload 20, 2) := by decide +kernel
theorem dL_fits_274 : decode cL_fits 274 = .ok (.lneg, 1) := by decide +kernel
theorem dL_fits_275 : decode cL_fits 275 = .ok (.land, 1) := by decide +kernel
theorem dL_fits_276 : decode cL_fits 276 = .ok (.lload 18, 2) := by decide +kernel
theorem dL_fits_278 : decode cL_fits 278 = .ok (.land, 1) := by decide +kernel
theorem dL_fits_279 : decode cL_fits 279 = .ok (.lconst 0, 1) := by decide +kernel
theorem dL_fits_280 : decode cL_fits 280 = .ok (.lcmp, 1) := by decide +kernel
theorem dL_fits_281 : decode cL_fits 281 = .ok (.ifCond .ne 5, 3) := by decide +kernel
theorem dL_fits_284 : decode cL_fits 284 = .ok (.iconst 0, 1) := by decide +kernel
theorem dL_fits_285 : decode cL_fits 285 = .ok (.ireturn, 1) := by decide +kernel
theorem dL_fits_286 : decode cL_fits 286 = .ok (.iconst 0, 1) := by decide +kernel
theorem dL_fits_287 : decode cL_fits 287 = .ok (.istore 22, 2) := by decide +kernel
theorem dL_fits_289 : decode cL_fits 289 = .ok (.iload 22, 2) := by decide +kernel
theorem dL_fits_291 : decode cL_fits 291 = .ok (.bipush 36, 2) := by decide +kernel
theorem dL_fits_293 : decode cL_fits 293 = .ok (.if_icmp .ge 24, 3) := by decide +kernel
theorem dL_fits_296 : decode cL_fits 296 = .ok (.aload_n 1, 1) := by decide +kernel
theorem dL_fits_297 : decode cL_fits 297 = .ok (.iload 22, 2) := by decide +kernel
theorem dL_fits_299 : decode cL_fits 299 = .ok (.dup2, 1) := by decide +kernel
theorem dL_fits_300 : decode cL_fits 300 = .ok (.iaload, 1) := by decide +kernel
theorem dL_fits_301 : decode cL_fits 301 = .ok (.lload 18, 2) := by decide +kernel
theorem dL_fits_303 : decode cL_fits 303 = .ok (.iload 22, 2) := by decide +kernel
theorem dL_fits_305 : decode cL_fits 305 = .ok (.lshr, 1) := by decide +kernel
theorem dL_fits_306 : decode cL_fits 306 = .ok (.l2i, 1) := by decide +kernel
theorem dL_fits_307 : decode cL_fits 307 = .ok (.iconst 1, 1) := by decide +kernel
theorem dL_fits_308 : decode cL_fits 308 = .ok (.iand, 1) := by decide +kernel
theorem dL_fits_309 : decode cL_fits 309 = .ok (.iadd, 1) := by decide +kernel
theorem dL_fits_310 : decode cL_fits 310 = .ok (.iastore, 1) := by decide +kernel
theorem dL_fits_311 : decode cL_fits 311 = .ok (.iinc 22 1, 3) := by decide +kernel
theorem dL_fits_314 : decode cL_fits 314 = .ok (.goto (-25), 3) := by decide +kernel
theorem dL_fits_317 : decode cL_fits 317 = .ok (.lload 11, 2) := by decide +kernel
theorem dL_fits_319 : decode cL_fits 319 = .ok (.lload 18, 2) := by decide +kernel
theorem dL_fits_321 : decode cL_fits 321 = .ok (.land, 1) := by decide +kernel
theorem dL_fits_322 : decode cL_fits 322 = .ok (.lstore 11, 2) := by decide +kernel
theorem dL_fits_324 : decode cL_fits 324 = .ok (.lload 13, 2) := by decide +kernel
theorem dL_fits_326 : decode cL_fits 326 = .ok (.lload 18, 2) := by decide +kernel
theorem dL_fits_328 : decode cL_fits 328 = .ok (.lor, 1) := by decide +kernel
theorem dL_fits_329 : decode cL_fits 329 = .ok (.lstore 13, 2) := by decide +kernel
theorem dL_fits_331 : decode cL_fits 331 = .ok (.lload 18, 2) := by decide +kernel
theorem dL_fits_333 : decode cL_fits 333 = .ok (.lload 4, 2) := by decide +kernel
theorem dL_fits_335 : decode cL_fits 335 = .ok (.lxor, 1) := by decide +kernel
theorem dL_fits_336 : decode cL_fits 336 = .ok (.invokestatic 51, 3) := by decide +kernel
theorem dL_fits_339 : decode cL_fits 339 = .ok (.iload 15, 2) := by decide +kernel
theorem dL_fits_341 : decode cL_fits 341 = .ok (.if_icmp .ge 14, 3) := by decide +kernel
theorem dL_fits_344 : decode cL_fits 344 = .ok (.lload 18, 2) := by decide +kernel
theorem dL_fits_346 : decode cL_fits 346 = .ok (.lload 4, 2) := by decide +kernel
theorem dL_fits_348 : decode cL_fits 348 = .ok (.lxor, 1) := by decide +kernel
theorem dL_fits_349 : decode cL_fits 349 = .ok (.invokestatic 51, 3) := by decide +kernel
theorem dL_fits_352 : decode cL_fits 352 = .ok (.goto 5, 3) := by decide +kernel
theorem dL_fits_355 : decode cL_fits 355 = .ok (.iload 15, 2) := by decide +kernel
theorem dL_fits_357 : decode cL_fits 357 = .ok (.istore 15, 2) := by decide +kernel
theorem dL_fits_359 : decode cL_fits 359 = .ok (.lload 18, 2) := by decide +kernel
theorem dL_fits_361 : decode cL_fits 361 = .ok (.lstore 9, 2) := by decide +kernel
theorem dL_fits_363 : decode cL_fits 363 = .ok (.iinc 16 1, 3) := by decide +kernel
theorem dL_fits_366 : decode cL_fits 366 = .ok (.goto (-192), 3) := by decide +kernel
theorem dL_fits_369 : decode cL_fits 369 = .ok (.iload 8, 2) := by decide +kernel
theorem dL_fits_371 : decode cL_fits 371 = .ok (.bipush 100, 2) := by decide +kernel
theorem dL_fits_373 : decode cL_fits 373 = .ok (.if_icmp .ne 50, 3) := by decide +kernel
theorem dL_fits_376 : decode cL_fits 376 = .ok (.aload_n 0, 1) := by decide +kernel
theorem dL_fits_377 : decode cL_fits 377 = .ok (.iconst 0, 1) := by decide +kernel
theorem dL_fits_378 : decode cL_fits 378 = .ok (.invokevirtual 101, 3) := by decide +kernel
theorem dL_fits_381 : decode cL_fits 381 = .ok (.lload 4, 2) := by decide +kernel
theorem dL_fits_383 : decode cL_fits 383 = .ok (.invokestatic 51, 3) := by decide +kernel
theorem dL_fits_386 : decode cL_fits 386 = .ok (.if_icmp .ne 35, 3) := by decide +kernel
theorem dL_fits_389 : decode cL_fits 389 = .ok (.aload_n 0, 1) := by decide +kernel
theorem dL_fits_390 : decode cL_fits 390 = .ok (.iconst 0, 1) := by decide +kernel
theorem dL_fits_391 : decode cL_fits 391 = .ok (.invokestatic 34, 3) := by decide +kernel
theorem dL_fits_394 : decode cL_fits 394 = .ok (.lload 4, 2) := by decide +kernel
theorem dL_fits_396 : decode cL_fits 396 = .ok (.lcmp, 1) := by decide +kernel
theorem dL_fits_397 : decode cL_fits 397 = .ok (.ifCond .ne 24, 3) := by decide +kernel
theorem dL_fits_400 : decode cL_fits 400 = .ok (.aload_n 0, 1) := by decide +kernel
theorem dL_fits_401 : decode cL_fits 401 = .ok (.invokevirtual 87, 3) := by decide +kernel
theorem dL_fits_404 : decode cL_fits 404 = .ok (.bipush (-9), 2) := by decide +kernel
theorem dL_fits_406 : decode cL_fits 406 = .ok (.if_icmp .ne 15, 3) := by decide +kernel
theorem dL_fits_409 : decode cL_fits 409 = .ok (.aload_n 0, 1) := by decide +kernel
theorem dL_fits_410 : decode cL_fits 410 = .ok (.invokestatic 98, 3) := by decide +kernel
theorem dL_fits_413 : decode cL_fits 413 = .ok (.iconst (-1), 1) := by decide +kernel
theorem dL_fits_414 : decode cL_fits 414 = .ok (.if_icmp .ne 7, 3) := by decide +kernel
theorem dL_fits_417 : decode cL_fits 417 = .ok (.iconst 1, 1) := by decide +kernel
theorem dL_fits_418 : decode cL_fits 418 = .ok (.goto 4, 3) := by decide +kernel
theorem dL_fits_421 : decode cL_fits 421 = .ok (.iconst 0, 1) := by decide +kernel
theorem dL_fits_422 : decode cL_fits 422 = .ok (.ireturn, 1) := by decide +kernel
theorem dL_fits_423 : decode cL_fits 423 = .ok (.bipush (-9), 2) := by decide +kernel
theorem dL_fits_425 : decode cL_fits 425 = .ok (.istore 16, 2) := by decide +kernel
theorem dL_fits_427 : decode cL_fits 427 = .ok (.iconst (-1), 1) := by decide +kernel
theorem dL_fits_428 : decode cL_fits 428 = .ok (.istore 17, 2) := by decide +kernel
theorem dL_fits_430 : decode cL_fits 430 = .ok (.iconst 0, 1) := by decide +kernel
theorem dL_fits_431 : decode cL_fits 431 = .ok (.istore 18, 2) := by decide +kernel
theorem dL_fits_433 : decode cL_fits 433 = .ok (.iload 18, 2) := by decide +kernel
theorem dL_fits_435 : decode cL_fits 435 = .ok (.bipush 36, 2) := by decide +kernel
theorem dL_fits_437 : decode cL_fits 437 = .ok (.if_icmp .ge 117, 3) := by decide +kernel
theorem dL_fits_440 : decode cL_fits 440 = .ok (.iload 8, 2) := by decide +kernel
theorem dL_fits_442 : decode cL_fits 442 = .ok (.iconst 1, 1) := by decide +kernel
theorem dL_fits_443 : decode cL_fits 443 = .ok (.if_icmp .le 111, 3) := by decide +kernel
theorem dL_fits_446 : decode cL_fits 446 = .ok (.aload_n 1, 1) := by decide +kernel
theorem dL_fits_447 : decode cL_fits 447 = .ok (.iload 18, 2) := by decide +kernel
theorem dL_fits_449 : decode cL_fits 449 = .ok (.iaload, 1) := by decide +kernel
theorem dL_fits_450 : decode cL_fits 450 = .ok (.iload 8, 2) := by decide +kernel
theorem dL_fits_452 : decode cL_fits 452 = .ok (.aload_n 1, 1) := by decide +kernel
theorem dL_fits_453 : decode cL_fits 453 = .ok (.iload 18, 2) := by decide +kernel
theorem dL_fits_455 : decode cL_fits 455 = .ok (.iaload, 1) := by decide +kernel
theorem dL_fits_456 : decode cL_fits 456 = .ok (.isub, 1) := by decide +kernel
theorem dL_fits_457 : decode cL_fits 457 = .ok (.if_icmp .ge 10, 3) := by decide +kernel
theorem dL_fits_460 : decode cL_fits 460 = .ok (.aload_n 1, 1) := by decide +kernel
theorem dL_fits_461 : decode cL_fits 461 = .ok (.iload 18, 2) := by decide +kernel
theorem dL_fits_463 : decode cL_fits 463 = .ok (.iaload, 1) := by decide +kernel
theorem dL_fits_464 : decode cL_fits 464 = .ok (.goto 10, 3) := by decide +kernel
theorem dL_fits_467 : decode cL_fits 467 = .ok (.iload 8, 2) := by decide +kernel
theorem dL_fits_469 : decode cL_fits 469 = .ok (.aload_n 1, 1) := by decide +kernel
theorem dL_fits_470 : decode cL_fits 470 = .ok (.iload 18, 2) := by decide +kernel
theorem dL_fits_472 : decode cL_fits 472 = .ok (.iaload, 1) := by decide +kernel
theorem dL_fits_473 : decode cL_fits 473 = .ok (.isub, 1) := by decide +kernel
theorem dL_fits_474 : decode cL_fits 474 = .ok (.istore 19, 2) := by decide +kernel
theorem dL_fits_476 : decode cL_fits 476 = .ok (.iload 18, 2) := by decide +kernel
theorem dL_fits_478 : decode cL_fits 478 = .ok (.bipush 6, 2) := by decide +kernel
theorem dL_fits_480 : decode cL_fits 480 = .ok (.idiv, 1) := by decide +kernel
theorem dL_fits_481 : decode cL_fits 481 = .ok (.iload_n 2, 1) := by decide +kernel
theorem dL_fits_482 : decode cL_fits 482 = .ok (.if_icmp .ge 23, 3) := by decide +kernel
theorem dL_fits_485 : decode cL_fits 485 = .ok (.iload 18, 2) := by decide +kernel
theorem dL_fits_487 : decode cL_fits 487 = .ok (.bipush 6, 2) := by decide +kernel
theorem dL_fits_489 : decode cL_fits 489 = .ok (.irem, 1) := by decide +kernel
theorem dL_fits_490 : decode cL_fits 490 = .ok (.iload_n 3, 1) := by decide +kernel
theorem dL_fits_491 : decode cL_fits 491 = .ok (.if_icmp .ge 14, 3) := by decide +kernel
theorem dL_fits_494 : decode cL_fits 494 = .ok (.iload 19, 2) := by decide +kernel
theorem dL_fits_496 : decode cL_fits 496 = .ok (.iload 17, 2) := by decide +kernel
theorem dL_fits_498 : decode cL_fits 498 = .ok (.if_icmp .le 7, 3) := by decide +kernel
theorem dL_fits_501 : decode cL_fits 501 = .ok (.iconst 1, 1) := by decide +kernel
theorem dL_fits_502 : decode cL_fits 502 = .ok (.goto 4, 3) := by decide +kernel
theorem dL_fits_505 : decode cL_fits 505 = .ok (.iconst 0, 1) := by decide +kernel
theorem dL_fits_506 : decode cL_fits 506 = .ok (.istore 20, 2) := by decide +kernel
theorem dL_fits_508 : decode cL_fits 508 = .ok (.iload 20, 2) := by decide +kernel
theorem dL_fits_510 : decode cL_fits 510 = .ok (.ifCond .eq 20, 3) := by decide +kernel
theorem dL_fits_513 : decode cL_fits 513 = .ok (.bipush 10, 2) := by decide +kernel
theorem dL_fits_515 : decode cL_fits 515 = .ok (.iload 18, 2) := by decide +kernel
theorem dL_fits_517 : decode cL_fits 517 = .ok (.bipush 6, 2) := by decide +kernel
theorem dL_fits_519 : decode cL_fits 519 = .ok (.idiv, 1) := by decide +kernel
theorem dL_fits_520 : decode cL_fits 520 = .ok (.imul, 1) := by decide +kernel
theorem dL_fits_521 : decode cL_fits 521 = .ok (.iload 18, 2) := by decide +kernel
theorem dL_fits_523 : decode cL_fits 523 = .ok (.bipush 6, 2) := by decide +kernel
theorem dL_fits_525 : decode cL_fits 525 = .ok (.irem, 1) := by decide +kernel
theorem dL_fits_526 : decode cL_fits 526 = .ok (.iadd, 1) := by decide +kernel
theorem dL_fits_527 : decode cL_fits 527 = .ok (.goto 5, 3) := by decide +kernel
theorem dL_fits_530 : decode cL_fits 530 = .ok (.iload 16, 2) := by decide +kernel
theorem dL_fits_532 : decode cL_fits 532 = .ok (.istore 16, 2) := by decide +kernel
theorem dL_fits_534 : decode cL_fits 534 = .ok (.iload 20, 2) := by decide +kernel
theorem dL_fits_536 : decode cL_fits 536 = .ok (.ifCond .eq 8, 3) := by decide +kernel
theorem dL_fits_539 : decode cL_fits 539 = .ok (.iload 19, 2) := by decide +kernel
theorem dL_fits_541 : decode cL_fits 541 = .ok (.goto 5, 3) := by decide +kernel
theorem dL_fits_544 : decode cL_fits 544 = .ok (.iload 17, 2) := by decide +kernel
theorem dL_fits_546 : decode cL_fits 546 = .ok (.istore 17, 2) := by decide +kernel
theorem dL_fits_548 : decode cL_fits 548 = .ok (.iinc 18 1, 3) := by decide +kernel
theorem dL_fits_551 : decode cL_fits 551 = .ok (.goto (-118), 3) := by decide +kernel
theorem dL_fits_554 : decode cL_fits 554 = .ok (.lconst 0, 1) := by decide +kernel
theorem dL_fits_555 : decode cL_fits 555 = .ok (.lstore 18, 2) := by decide +kernel
theorem dL_fits_557 : decode cL_fits 557 = .ok (.iconst 0, 1) := by decide +kernel
theorem dL_fits_558 : decode cL_fits 558 = .ok (.istore 20, 2) := by decide +kernel
theorem dL_fits_560 : decode cL_fits 560 = .ok (.iload 20, 2) := by decide +kernel
theorem dL_fits_562 : decode cL_fits 562 = .ok (.iload_n 2, 1) := by decide +kernel
theorem dL_fits_563 : decode cL_fits 563 = .ok (.if_icmp .ge 25, 3) := by decide +kernel
theorem dL_fits_566 : decode cL_fits 566 = .ok (.lload 18, 2) := by decide +kernel
theorem dL_fits_568 : decode cL_fits 568 = .ok (.lconst 1, 1) := by decide +kernel
theorem dL_fits_569 : decode cL_fits 569 = .ok (.iload_n 3, 1) := by decide +kernel
theorem dL_fits_570 : decode cL_fits 570 = .ok (.lshl, 1) := by decide +kernel
theorem dL_fits_571 : decode cL_fits 571 = .ok (.lconst 1, 1) := by decide +kernel
theorem dL_fits_572 : decode cL_fits 572 = .ok (.lsub, 1) := by decide +kernel
theorem dL_fits_573 : decode cL_fits 573 = .ok (.bipush 6, 2) := by decide +kernel
theorem dL_fits_575 : decode cL_fits 575 = .ok (.iload 20, 2) := by decide +kernel
theorem dL_fits_577 : decode cL_fits 577 = .ok (.imul, 1) := by decide +kernel
theorem dL_fits_578 : decode cL_fits 578 = .ok (.lshl, 1) := by decide +kernel
theorem dL_fits_579 : decode cL_fits 579 = .ok (.lor, 1) := by decide +kernel
theorem dL_fits_580 : decode cL_fits 580 = .ok (.lstore 18, 2) := by decide +kernel
theorem dL_fits_582 : decode cL_fits 582 = .ok (.iinc 20 1, 3) := by decide +kernel
theorem dL_fits_585 : decode cL_fits 585 = .ok (.goto (-25), 3) := by decide +kernel
theorem dL_fits_588 : decode cL_fits 588 = .ok (.aload_n 0, 1) := by decide +kernel
theorem dL_fits_589 : decode cL_fits 589 = .ok (.invokestatic 94, 3) := by decide +kernel
theorem dL_fits_592 : decode cL_fits 592 = .ok (.iconst (-1), 1) := by decide +kernel
theorem dL_fits_593 : decode cL_fits 593 = .ok (.if_icmp .ne 141, 3) := by decide +kernel
theorem dL_fits_596 : decode cL_fits 596 = .ok (.aload_n 0, 1) := by decide +kernel
theorem dL_fits_597 : decode cL_fits 597 = .ok (.iconst 0, 1) := by decide +kernel
theorem dL_fits_598 : decode cL_fits 598 = .ok (.invokevirtual 101, 3) := by decide +kernel
theorem dL_fits_601 : decode cL_fits 601 = .ok (.lload 4, 2) := by decide +kernel
theorem dL_fits_603 : decode cL_fits 603 = .ok (.invokestatic 51, 3) := by decide +kernel
theorem dL_fits_606 : decode cL_fits 606 = .ok (.if_icmp .ne 128, 3) := by decide +kernel
theorem dL_fits_609 : decode cL_fits 609 = .ok (.aload_n 0, 1) := by decide +kernel
theorem dL_fits_610 : decode cL_fits 610 = .ok (.iconst 1, 1) := by decide +kernel
theorem dL_fits_611 : decode cL_fits 611 = .ok (.invokevirtual 9, 3) := by decide +kernel
theorem dL_fits_614 : decode cL_fits 614 = .ok (.lload 9, 2) := by decide +kernel
theorem dL_fits_616 : decode cL_fits 616 = .ok (.lload 4, 2) := by decide +kernel
theorem dL_fits_618 : decode cL_fits 618 = .ok (.lxor, 1) := by decide +kernel
theorem dL_fits_619 : decode cL_fits 619 = .ok (.invokestatic 51, 3) := by decide +kernel
theorem dL_fits_622 : decode cL_fits 622 = .ok (.if_icmp .ne 112, 3) := by decide +kernel
theorem dL_fits_625 : decode cL_fits 625 = .ok (.aload_n 0, 1) := by decide +kernel
theorem dL_fits_626 : decode cL_fits 626 = .ok (.iconst 0, 1) := by decide +kernel
theorem dL_fits_627 : decode cL_fits 627 = .ok (.invokestatic 34, 3) := by decide +kernel
theorem dL_fits_630 : decode cL_fits 630 = .ok (.lload 9, 2) := by decide +kernel
theorem dL_fits_632 : decode cL_fits 632 = .ok (.lcmp, 1) := by decide +kernel
theorem dL_fits_633 : decode cL_fits 633 = .ok (.ifCond .ne 101, 3) := by decide +kernel
theorem dL_fits_636 : decode cL_fits 636 = .ok (.aload_n 0, 1) := by decide +kernel
theorem dL_fits_637 : decode cL_fits 637 = .ok (.iconst 0, 1) := by decide +kernel
theorem dL_fits_638 : decode cL_fits 638 = .ok (.invokevirtual 101, 3) := by decide +kernel
theorem dL_fits_641 : decode cL_fits 641 = .ok (.ifCond .lt 93, 3) := by decide +kernel
theorem dL_fits_644 : decode cL_fits 644 = .ok (.aload_n 0, 1) := by decide +kernel
theorem dL_fits_645 : decode cL_fits 645 = .ok (.iconst 0, 1) := by decide +kernel
theorem dL_fits_646 : decode cL_fits 646 = .ok (.invokestatic 34, 3) := by decide +kernel
theorem dL_fits_649 : decode cL_fits 649 = .ok (.lload 4, 2) := by decide +kernel
theorem dL_fits_651 : decode cL_fits 651 = .ok (.lcmp, 1) := by decide +kernel
theorem dL_fits_652 : decode cL_fits 652 = .ok (.ifCond .ne 82, 3) := by decide +kernel
theorem dL_fits_655 : decode cL_fits 655 = .ok (.aload_n 0, 1) := by decide +kernel
theorem dL_fits_656 : decode cL_fits 656 = .ok (.iconst 1, 1) := by decide +kernel
theorem dL_fits_657 : decode cL_fits 657 = .ok (.invokevirtual 83, 3) := by decide +kernel
theorem dL_fits_660 : decode cL_fits 660 = .ok (.lload 11, 2) := by decide +kernel
theorem dL_fits_662 : decode cL_fits 662 = .ok (.lload 18, 2) := by decide +kernel
theorem dL_fits_664 : decode cL_fits 664 = .ok (.land, 1) := by decide +kernel
theorem dL_fits_665 : decode cL_fits 665 = .ok (.invokestatic 51, 3) := by decide +kernel
theorem dL_fits_668 : decode cL_fits 668 = .ok (.if_icmp .ne 66, 3) := by decide +kernel
theorem dL_fits_671 : decode cL_fits 671 = .ok (.aload_n 0, 1) := by decide +kernel
theorem dL_fits_672 : decode cL_fits 672 = .ok (.iconst 0, 1) := by decide +kernel
theorem dL_fits_673 : decode cL_fits 673 = .ok (.invokevirtual 83, 3) := by decide +kernel
theorem dL_fits_676 : decode cL_fits 676 = .ok (.lload 18, 2) := by decide +kernel
theorem dL_fits_678 : decode cL_fits 678 = .ok (.lload 13, 2) := by decide +kernel
theorem dL_fits_680 : decode cL_fits 680 = .ok (.ldc2_w 58, 3) := by decide +kernel
theorem dL_fits_683 : decode cL_fits 683 = .ok (.lxor, 1) := by decide +kernel
theorem dL_fits_684 : decode cL_fits 684 = .ok (.land, 1) := by decide +kernel
theorem dL_fits_685 : decode cL_fits 685 = .ok (.invokestatic 51, 3) := by decide +kernel
theorem dL_fits_688 : decode cL_fits 688 = .ok (.if_icmp .ne 46, 3) := by decide +kernel
theorem dL_fits_691 : decode cL_fits 691 = .ok (.aload_n 0, 1) := by decide +kernel
theorem dL_fits_692 : decode cL_fits 692 = .ok (.iconst 4, 1) := by decide +kernel
theorem dL_fits_693 : decode cL_fits 693 = .ok (.invokestatic 34, 3) := by decide +kernel
theorem dL_fits_696 : decode cL_fits 696 = .ok (.lload 11, 2) := by decide +kernel
theorem dL_fits_698 : decode cL_fits 698 = .ok (.lload 13, 2) := by decide +kernel
theorem dL_fits_700 : decode cL_fits 700 = .ok (.ldc2_w 58, 3) := by decide +kernel
theorem dL_fits_703 : decode cL_fits 703 = .ok (.lxor, 1) := by decide +kernel
theorem dL_fits_704 : decode cL_fits 704 = .ok (.lor, 1) := by decide +kernel
theorem dL_fits_705 : decode cL_fits 705 = .ok (.lload 18, 2) := by decide +kernel
theorem dL_fits_707 : decode cL_fits 707 = .ok (.land, 1) := by decide +kernel
theorem dL_fits_708 : decode cL_fits 708 = .ok (.lcmp, 1) := by decide +kernel
theorem dL_fits_709 : decode cL_fits 709 = .ok (.ifCond .ne 25, 3) := by decide +kernel
theorem dL_fits_712 : decode cL_fits 712 = .ok (.aload_n 0, 1) := by decide +kernel
theorem dL_fits_713 : decode cL_fits 713 = .ok (.invokevirtual 21, 3) := by decide +kernel
theorem dL_fits_716 : decode cL_fits 716 = .ok (.iload 15, 2) := by decide +kernel
theorem dL_fits_718 : decode cL_fits 718 = .ok (.if_icmp .ne 16, 3) := by decide +kernel
theorem dL_fits_721 : decode cL_fits 721 = .ok (.aload_n 0, 1) := by decide +kernel
theorem dL_fits_722 : decode cL_fits 722 = .ok (.invokevirtual 87, 3) := by decide +kernel
theorem dL_fits_725 : decode cL_fits 725 = .ok (.iload 16, 2) := by decide +kernel
theorem dL_fits_727 : decode cL_fits 727 = .ok (.if_icmp .ne 7, 3) := by decide +kernel
theorem dL_fits_730 : decode cL_fits 730 = .ok (.iconst 1, 1) := by decide +kernel
theorem dL_fits_731 : decode cL_fits 731 = .ok (.goto 4, 3) := by decide +kernel
theorem dL_fits_734 : decode cL_fits 734 = .ok (.iconst 0, 1) := by decide +kernel
theorem dL_fits_735 : decode cL_fits 735 = .ok (.ireturn, 1) := by decide +kernel
theorem dL_sound_0 : decode cL_sound 0 = .ok (.aload_n 0, 1) := by decide +kernel
theorem dL_sound_1 : decode cL_sound 1 = .ok (.invokestatic 73, 3) := by decide +kernel
theorem dL_sound_4 : decode cL_sound 4 = .ok (.ifCond .eq 36, 3) := by decide +kernel
theorem dL_sound_7 : decode cL_sound 7 = .ok (.aload_n 0, 1) := by decide +kernel
theorem dL_sound_8 : decode cL_sound 8 = .ok (.invokestatic 104, 3) := by decide +kernel
theorem dL_sound_11 : decode cL_sound 11 = .ok (.ifCond .eq 29, 3) := by decide +kernel
theorem dL_sound_14 : decode cL_sound 14 = .ok (.aload_n 0, 1) := by decide +kernel
theorem dL_sound_15 : decode cL_sound 15 = .ok (.invokestatic 107, 3) := by decide +kernel
theorem dL_sound_18 : decode cL_sound 18 = .ok (.ifCond .eq 22, 3) := by decide +kernel
theorem dL_sound_21 : decode cL_sound 21 = .ok (.aload_n 0, 1) := by decide +kernel
theorem dL_sound_22 : decode cL_sound 22 = .ok (.iload_n 1, 1) := by decide +kernel
theorem dL_sound_23 : decode cL_sound 23 = .ok (.invokestatic 110, 3) := by decide +kernel
theorem dL_sound_26 : decode cL_sound 26 = .ok (.ifCond .eq 14, 3) := by decide +kernel
theorem dL_sound_29 : decode cL_sound 29 = .ok (.aload_n 0, 1) := by decide +kernel
theorem dL_sound_30 : decode cL_sound 30 = .ok (.invokestatic 114, 3) := by decide +kernel
theorem dL_sound_33 : decode cL_sound 33 = .ok (.ifCond .eq 7, 3) := by decide +kernel
theorem dL_sound_36 : decode cL_sound 36 = .ok (.iconst 1, 1) := by decide +kernel
theorem dL_sound_37 : decode cL_sound 37 = .ok (.goto 4, 3) := by decide +kernel
theorem dL_sound_40 : decode cL_sound 40 = .ok (.iconst 0, 1) := by decide +kernel
theorem dL_sound_41 : decode cL_sound 41 = .ok (.ireturn, 1) := by decide +kernel
theorem dL_law_0 : decode cL_law 0 = .ok (.new 10, 3) := by decide +kernel
theorem dL_law_3 : decode cL_law 3 = .ok (.dup, 1) := by decide +kernel
theorem dL_law_4 : decode cL_law 4 = .ok (.invokespecial 117, 3) := by decide +kernel
theorem dL_law_7 : decode cL_law 7 = .ok (.astore_n 1, 1) := by decide +kernel
theorem dL_law_8 : decode cL_law 8 = .ok (.aload_n 1, 1) := by decide +kernel
theorem dL_law_9 : decode cL_law 9 = .ok (.iconst 0, 1) := by decide +kernel
theorem dL_law_10 : decode cL_law 10 = .ok (.invokevirtual 27, 3) := by decide +kernel
theorem dL_law_13 : decode cL_law 13 = .ok (.iconst 3, 1) := by decide +kernel
theorem dL_law_14 : decode cL_law 14 = .ok (.if_icmp .ne 76, 3) := by decide +kernel
theorem dL_law_17 : decode cL_law 17 = .ok (.aload_n 1, 1) := by decide +kernel
theorem dL_law_18 : decode cL_law 18 = .ok (.iconst 1, 1) := by decide +kernel
theorem dL_law_19 : decode cL_law 19 = .ok (.invokevirtual 27, 3) := by decide +kernel
theorem dL_law_22 : decode cL_law 22 = .ok (.iconst 3, 1) := by decide +kernel
theorem dL_law_23 : decode cL_law 23 = .ok (.if_icmp .ne 67, 3) := by decide +kernel
theorem dL_law_26 : decode cL_law 26 = .ok (.aload_n 1, 1) := by decide +kernel
theorem dL_law_27 : decode cL_law 27 = .ok (.iconst 2, 1) := by decide +kernel
theorem dL_law_28 : decode cL_law 28 = .ok (.invokevirtual 27, 3) := by decide +kernel
theorem dL_law_31 : decode cL_law 31 = .ok (.ifCond .ne 59, 3) := by decide +kernel
theorem dL_law_34 : decode cL_law 34 = .ok (.aload_n 1, 1) := by decide +kernel
theorem dL_law_35 : decode cL_law 35 = .ok (.invokevirtual 77, 3) := by decide +kernel
theorem dL_law_38 : decode cL_law 38 = .ok (.iconst 1, 1) := by decide +kernel
theorem dL_law_39 : decode cL_law 39 = .ok (.if_icmp .ne 51, 3) := by decide +kernel
theorem dL_law_42 : decode cL_law 42 = .ok (.aload_n 1, 1) := by decide +kernel
theorem dL_law_43 : decode cL_law 43 = .ok (.iconst 0, 1) := by decide +kernel
theorem dL_law_44 : decode cL_law 44 = .ok (.invokevirtual 83, 3) := by decide +kernel
theorem dL_law_47 : decode cL_law 47 = .ok (.bipush 9, 2) := by decide +kernel
theorem dL_law_49 : decode cL_law 49 = .ok (.if_icmp .ne 41, 3) := by decide +kernel
theorem dL_law_52 : decode cL_law 52 = .ok (.aload_n 1, 1) := by decide +kernel
theorem dL_law_53 : decode cL_law 53 = .ok (.invokevirtual 21, 3) := by decide +kernel
theorem dL_law_56 : decode cL_law 56 = .ok (.ifCond .ne 34, 3) := by decide +kernel
theorem dL_law_59 : decode cL_law 59 = .ok (.aload_n 1, 1) := by decide +kernel
theorem dL_law_60 : decode cL_law 60 = .ok (.invokevirtual 63, 3) := by decide +kernel
theorem dL_law_63 : decode cL_law 63 = .ok (.bipush (-9), 2) := by decide +kernel
theorem dL_law_65 : decode cL_law 65 = .ok (.if_icmp .ne 25, 3) := by decide +kernel
theorem dL_law_68 : decode cL_law 68 = .ok (.aload_n 1, 1) := by decide +kernel
theorem dL_law_69 : decode cL_law 69 = .ok (.invokestatic 118, 3) := by decide +kernel
theorem dL_law_72 : decode cL_law 72 = .ok (.iconst (-1), 1) := by decide +kernel
theorem dL_law_73 : decode cL_law 73 = .ok (.if_icmp .ne 17, 3) := by decide +kernel
theorem dL_law_76 : decode cL_law 76 = .ok (.aload_n 1, 1) := by decide +kernel
theorem dL_law_77 : decode cL_law 77 = .ok (.invokevirtual 121, 3) := by decide +kernel
theorem dL_law_80 : decode cL_law 80 = .ok (.ifCond .ne 10, 3) := by decide +kernel
theorem dL_law_83 : decode cL_law 83 = .ok (.aload_n 1, 1) := by decide +kernel
theorem dL_law_84 : decode cL_law 84 = .ok (.invokestatic 118, 3) := by decide +kernel
theorem dL_law_87 : decode cL_law 87 = .ok (.ifCond .eq 5, 3) := by decide +kernel
theorem dL_law_90 : decode cL_law 90 = .ok (.iconst 0, 1) := by decide +kernel
theorem dL_law_91 : decode cL_law 91 = .ok (.ireturn, 1) := by decide +kernel
theorem dL_law_92 : decode cL_law 92 = .ok (.iconst 1, 1) := by decide +kernel
theorem dL_law_93 : decode cL_law 93 = .ok (.aload_n 0, 1) := by decide +kernel
theorem dL_law_94 : decode cL_law 94 = .ok (.iconst 0, 1) := by decide +kernel
theorem dL_law_95 : decode cL_law 95 = .ok (.invokestatic 124, 3) := by decide +kernel
theorem dL_law_98 : decode cL_law 98 = .ok (.bipush 6, 2) := by decide +kernel
theorem dL_law_100 : decode cL_law 100 = .ok (.invokestatic 66, 3) := by decide +kernel
theorem dL_law_103 : decode cL_law 103 = .ok (.iadd, 1) := by decide +kernel
theorem dL_law_104 : decode cL_law 104 = .ok (.istore_n 2, 1) := by decide +kernel
theorem dL_law_105 : decode cL_law 105 = .ok (.iconst 1, 1) := by decide +kernel
theorem dL_law_106 : decode cL_law 106 = .ok (.aload_n 0, 1) := by decide +kernel
theorem dL_law_107 : decode cL_law 107 = .ok (.iconst 0, 1) := by decide +kernel
theorem dL_law_108 : decode cL_law 108 = .ok (.invokestatic 124, 3) := by decide +kernel
theorem dL_law_111 : decode cL_law 111 = .ok (.iconst 3, 1) := by decide +kernel
theorem dL_law_112 : decode cL_law 112 = .ok (.ishr, 1) := by decide +kernel
theorem dL_law_113 : decode cL_law 113 = .ok (.bipush 6, 2) := by decide +kernel
theorem dL_law_115 : decode cL_law 115 = .ok (.invokestatic 66, 3) := by decide +kernel
theorem dL_law_118 : decode cL_law 118 = .ok (.iadd, 1) := by decide +kernel
theorem dL_law_119 : decode cL_law 119 = .ok (.istore_n 3, 1) := by decide +kernel
theorem dL_law_120 : decode cL_law 120 = .ok (.aload_n 1, 1) := by decide +kernel
theorem dL_law_121 : decode cL_law 121 = .ok (.iload_n 2, 1) := by decide +kernel
theorem dL_law_122 : decode cL_law 122 = .ok (.iload_n 3, 1) := by decide +kernel
theorem dL_law_123 : decode cL_law 123 = .ok (.invokevirtual 127, 3) := by decide +kernel
theorem dL_law_126 : decode cL_law 126 = .ok (.ifCond .eq 5, 3) := by decide +kernel
theorem dL_law_129 : decode cL_law 129 = .ok (.iconst 0, 1) := by decide +kernel
theorem dL_law_130 : decode cL_law 130 = .ok (.ireturn, 1) := by decide +kernel
theorem dL_law_131 : decode cL_law 131 = .ok (.iconst 0, 1) := by decide +kernel
theorem dL_law_132 : decode cL_law 132 = .ok (.istore 4, 2) := by decide +kernel
theorem dL_law_134 : decode cL_law 134 = .ok (.iload 4, 2) := by decide +kernel
theorem dL_law_136 : decode cL_law 136 = .ok (.iload_n 2, 1) := by decide +kernel
theorem dL_law_137 : decode cL_law 137 = .ok (.if_icmp .ge 91, 3) := by decide +kernel
theorem dL_law_140 : decode cL_law 140 = .ok (.aload_n 0, 1) := by decide +kernel
theorem dL_law_141 : decode cL_law 141 = .ok (.iconst 1, 1) := by decide +kernel
theorem dL_law_142 : decode cL_law 142 = .ok (.iload 4, 2) := by decide +kernel
theorem dL_law_144 : decode cL_law 144 = .ok (.iadd, 1) := by decide +kernel
theorem dL_law_145 : decode cL_law 145 = .ok (.invokestatic 124, 3) := by decide +kernel
theorem dL_law_148 : decode cL_law 148 = .ok (.istore 5, 2) := by decide +kernel
theorem dL_law_150 : decode cL_law 150 = .ok (.iconst 0, 1) := by decide +kernel
theorem dL_law_151 : decode cL_law 151 = .ok (.istore 6, 2) := by decide +kernel
theorem dL_law_153 : decode cL_law 153 = .ok (.iload 6, 2) := by decide +kernel
theorem dL_law_155 : decode cL_law 155 = .ok (.iload_n 3, 1) := by decide +kernel
theorem dL_law_156 : decode cL_law 156 = .ok (.if_icmp .ge 66, 3) := by decide +kernel
theorem dL_law_159 : decode cL_law 159 = .ok (.aload_n 1, 1) := by decide +kernel
theorem dL_law_160 : decode cL_law 160 = .ok (.iload 4, 2) := by decide +kernel
theorem dL_law_162 : decode cL_law 162 = .ok (.iload 6, 2) := by decide +kernel
theorem dL_law_164 : decode cL_law 164 = .ok (.iload 5, 2) := by decide +kernel
theorem dL_law_166 : decode cL_law 166 = .ok (.iload 6, 2) := by decide +kernel
theorem dL_law_168 : decode cL_law 168 = .ok (.ishr, 1) := by decide +kernel
theorem dL_law_169 : decode cL_law 169 = .ok (.iconst 1, 1) := by decide +kernel
theorem dL_law_170 : decode cL_law 170 = .ok (.iand, 1) := by decide +kernel
theorem dL_law_171 : decode cL_law 171 = .ok (.iconst 1, 1) := by decide +kernel
theorem dL_law_172 : decode cL_law 172 = .ok (.if_icmp .ne 7, 3) := by decide +kernel
theorem dL_law_175 : decode cL_law 175 = .ok (.iconst 1, 1) := by decide +kernel
theorem dL_law_176 : decode cL_law 176 = .ok (.goto 4, 3) := by decide +kernel
theorem dL_law_179 : decode cL_law 179 = .ok (.iconst 0, 1) := by decide +kernel
theorem dL_law_180 : decode cL_law 180 = .ok (.invokevirtual 130, 3) := by decide +kernel
theorem dL_law_183 : decode cL_law 183 = .ok (.ifCond .ne 31, 3) := by decide +kernel
theorem dL_law_186 : decode cL_law 186 = .ok (.iload 5, 2) := by decide +kernel
theorem dL_law_188 : decode cL_law 188 = .ok (.bipush 6, 2) := by decide +kernel
theorem dL_law_190 : decode cL_law 190 = .ok (.iconst 2, 1) := by decide +kernel
theorem dL_law_191 : decode cL_law 191 = .ok (.iload 6, 2) := by decide +kernel
theorem dL_law_193 : decode cL_law 193 = .ok (.imul, 1) := by decide +kernel
theorem dL_law_194 : decode cL_law 194 = .ok (.iadd, 1) := by decide +kernel
theorem dL_law_195 : decode cL_law 195 = .ok (.ishr, 1) := by decide +kernel
theorem dL_law_196 : decode cL_law 196 = .ok (.iconst 3, 1) := by decide +kernel
theorem dL_law_197 : decode cL_law 197 = .ok (.iand, 1) := by decide +kernel
theorem dL_law_198 : decode cL_law 198 = .ok (.iconst 3, 1) := by decide +kernel
theorem dL_law_199 : decode cL_law 199 = .ok (.if_icmp .ne 17, 3) := by decide +kernel
theorem dL_law_202 : decode cL_law 202 = .ok (.aload_n 1, 1) := by decide +kernel
theorem dL_law_203 : decode cL_law 203 = .ok (.iload 4, 2) := by decide +kernel
theorem dL_law_205 : decode cL_law 205 = .ok (.iload 6, 2) := by decide +kernel
theorem dL_law_207 : decode cL_law 207 = .ok (.iconst 1, 1) := by decide +kernel
theorem dL_law_208 : decode cL_law 208 = .ok (.invokevirtual 134, 3) := by decide +kernel
theorem dL_law_211 : decode cL_law 211 = .ok (.ifCond .eq 5, 3) := by decide +kernel
theorem dL_law_214 : decode cL_law 214 = .ok (.iconst 0, 1) := by decide +kernel
theorem dL_law_215 : decode cL_law 215 = .ok (.ireturn, 1) := by decide +kernel
theorem dL_law_216 : decode cL_law 216 = .ok (.iinc 6 1, 3) := by decide +kernel
theorem dL_law_219 : decode cL_law 219 = .ok (.goto (-66), 3) := by decide +kernel
theorem dL_law_222 : decode cL_law 222 = .ok (.iinc 4 1, 3) := by decide +kernel
theorem dL_law_225 : decode cL_law 225 = .ok (.goto (-91), 3) := by decide +kernel
theorem dL_law_228 : decode cL_law 228 = .ok (.iload_n 2, 1) := by decide +kernel
theorem dL_law_229 : decode cL_law 229 = .ok (.iload_n 3, 1) := by decide +kernel
theorem dL_law_230 : decode cL_law 230 = .ok (.iadd, 1) := by decide +kernel
theorem dL_law_231 : decode cL_law 231 = .ok (.istore 4, 2) := by decide +kernel
theorem dL_law_233 : decode cL_law 233 = .ok (.aload_n 1, 1) := by decide +kernel
theorem dL_law_234 : decode cL_law 234 = .ok (.invokevirtual 121, 3) := by decide +kernel
theorem dL_law_237 : decode cL_law 237 = .ok (.istore 5, 2) := by decide +kernel
theorem dL_law_239 : decode cL_law 239 = .ok (.aload_n 1, 1) := by decide +kernel
theorem dL_law_240 : decode cL_law 240 = .ok (.bipush 6, 2) := by decide +kernel
theorem dL_law_242 : decode cL_law 242 = .ok (.invokevirtual 27, 3) := by decide +kernel
theorem dL_law_245 : decode cL_law 245 = .ok (.ifCond .ne 10, 3) := by decide +kernel
theorem dL_law_248 : decode cL_law 248 = .ok (.iload 5, 2) := by decide +kernel
theorem dL_law_250 : decode cL_law 250 = .ok (.iload 4, 2) := by decide +kernel
theorem dL_law_252 : decode cL_law 252 = .ok (.if_icmp .le 5, 3) := by decide +kernel
theorem dL_law_255 : decode cL_law 255 = .ok (.iconst 0, 1) := by decide +kernel
theorem dL_law_256 : decode cL_law 256 = .ok (.ireturn, 1) := by decide +kernel
theorem dL_law_257 : decode cL_law 257 = .ok (.iconst 0, 1) := by decide +kernel
theorem dL_law_258 : decode cL_law 258 = .ok (.istore 6, 2) := by decide +kernel
theorem dL_law_260 : decode cL_law 260 = .ok (.iload 6, 2) := by decide +kernel
theorem dL_law_262 : decode cL_law 262 = .ok (.aload_n 0, 1) := by decide +kernel
theorem dL_law_263 : decode cL_law 263 = .ok (.bipush 7, 2) := by decide +kernel
theorem dL_law_265 : decode cL_law 265 = .ok (.invokestatic 124, 3) := by decide +kernel
theorem dL_law_268 : decode cL_law 268 = .ok (.iconst 3, 1) := by decide +kernel
theorem dL_law_269 : decode cL_law 269 = .ok (.invokestatic 66, 3) := by decide +kernel
theorem dL_law_272 : decode cL_law 272 = .ok (.if_icmp .ge 59, 3) := by decide +kernel
theorem dL_law_275 : decode cL_law 275 = .ok (.aload_n 0, 1) := by decide +kernel
theorem dL_law_276 : decode cL_law 276 = .ok (.bipush 8, 2) := by decide +kernel
theorem dL_law_278 : decode cL_law 278 = .ok (.iload 6, 2) := by decide +kernel
theorem dL_law_280 : decode cL_law 280 = .ok (.iadd, 1) := by decide +kernel
theorem dL_law_281 : decode cL_law 281 = .ok (.invokestatic 124, 3) := by decide +kernel
theorem dL_law_284 : decode cL_law 284 = .ok (.istore 7, 2) := by decide +kernel
theorem dL_law_286 : decode cL_law 286 = .ok (.iload 7, 2) := by decide +kernel
theorem dL_law_288 : decode cL_law 288 = .ok (.iload 4, 2) := by decide +kernel
theorem dL_law_290 : decode cL_law 290 = .ok (.invokestatic 66, 3) := by decide +kernel
theorem dL_law_293 : decode cL_law 293 = .ok (.istore 8, 2) := by decide +kernel
theorem dL_law_295 : decode cL_law 295 = .ok (.aload_n 1, 1) := by decide +kernel
theorem dL_law_296 : decode cL_law 296 = .ok (.iload 8, 2) := by decide +kernel
theorem dL_law_298 : decode cL_law 298 = .ok (.iconst 1, 1) := by decide +kernel
theorem dL_law_299 : decode cL_law 299 = .ok (.invokevirtual 44, 3) := by decide +kernel
theorem dL_law_302 : decode cL_law 302 = .ok (.istore 9, 2) := by decide +kernel
theorem dL_law_304 : decode cL_law 304 = .ok (.aload_n 1, 1) := by decide +kernel
theorem dL_law_305 : decode cL_law 305 = .ok (.iload 8, 2) := by decide +kernel
theorem dL_law_307 : decode cL_law 307 = .ok (.iload 7, 2) := by decide +kernel
theorem dL_law_309 : decode cL_law 309 = .ok (.iconst 5, 1) := by decide +kernel
theorem dL_law_310 : decode cL_law 310 = .ok (.ishr, 1) := by decide +kernel
theorem dL_law_311 : decode cL_law 311 = .ok (.iconst 4, 1) := by decide +kernel
theorem dL_law_312 : decode cL_law 312 = .ok (.invokestatic 66, 3) := by decide +kernel
theorem dL_law_315 : decode cL_law 315 = .ok (.invokevirtual 137, 3) := by decide +kernel
theorem dL_law_318 : decode cL_law 318 = .ok (.iload 9, 2) := by decide +kernel
theorem dL_law_320 : decode cL_law 320 = .ok (.if_icmp .eq 5, 3) := by decide +kernel
theorem dL_law_323 : decode cL_law 323 = .ok (.iconst 0, 1) := by decide +kernel
theorem dL_law_324 : decode cL_law 324 = .ok (.ireturn, 1) := by decide +kernel
theorem dL_law_325 : decode cL_law 325 = .ok (.iinc 6 1, 3) := by decide +kernel
theorem dL_law_328 : decode cL_law 328 = .ok (.goto (-68), 3) := by decide +kernel
theorem dL_law_331 : decode cL_law 331 = .ok (.iconst 0, 1) := by decide +kernel
theorem dL_law_332 : decode cL_law 332 = .ok (.istore 6, 2) := by decide +kernel
theorem dL_law_334 : decode cL_law 334 = .ok (.iload 6, 2) := by decide +kernel
theorem dL_law_336 : decode cL_law 336 = .ok (.aload_n 0, 1) := by decide +kernel
theorem dL_law_337 : decode cL_law 337 = .ok (.bipush 7, 2) := by decide +kernel
theorem dL_law_339 : decode cL_law 339 = .ok (.invokestatic 124, 3) := by decide +kernel
theorem dL_law_342 : decode cL_law 342 = .ok (.iconst 3, 1) := by decide +kernel
theorem dL_law_343 : decode cL_law 343 = .ok (.ishr, 1) := by decide +kernel
theorem dL_law_344 : decode cL_law 344 = .ok (.iconst 4, 1) := by decide +kernel
theorem dL_law_345 : decode cL_law 345 = .ok (.invokestatic 66, 3) := by decide +kernel
theorem dL_law_348 : decode cL_law 348 = .ok (.if_icmp .ge 107, 3) := by decide +kernel
theorem dL_law_351 : decode cL_law 351 = .ok (.aload_n 0, 1) := by decide +kernel
theorem dL_law_352 : decode cL_law 352 = .ok (.bipush 11, 2) := by decide +kernel
theorem dL_law_354 : decode cL_law 354 = .ok (.iload 6, 2) := by decide +kernel
theorem dL_law_356 : decode cL_law 356 = .ok (.iadd, 1) := by decide +kernel
theorem dL_law_357 : decode cL_law 357 = .ok (.invokestatic 124, 3) := by decide +kernel
theorem dL_law_360 : decode cL_law 360 = .ok (.istore 7, 2) := by decide +kernel
theorem dL_law_362 : decode cL_law 362 = .ok (.iload 7, 2) := by decide +kernel
theorem dL_law_364 : decode cL_law 364 = .ok (.iload_n 2, 1) := by decide +kernel
theorem dL_law_365 : decode cL_law 365 = .ok (.invokestatic 66, 3) := by decide +kernel
theorem dL_law_368 : decode cL_law 368 = .ok (.istore 8, 2) := by decide +kernel
theorem dL_law_370 : decode cL_law 370 = .ok (.iload 7, 2) := by decide +kernel
theorem dL_law_372 : decode cL_law 372 = .ok (.iconst 4, 1) := by decide +kernel
theorem dL_law_373 : decode cL_law 373 = .ok (.ishr, 1) := by decide +kernel
theorem dL_law_374 : decode cL_law 374 = .ok (.iload_n 3, 1) := by decide +kernel
theorem dL_law_375 : decode cL_law 375 = .ok (.invokestatic 66, 3) := by decide +kernel
theorem dL_law_378 : decode cL_law 378 = .ok (.istore 9, 2) := by decide +kernel
theorem dL_law_380 : decode cL_law 380 = .ok (.aload_n 1, 1) := by decide +kernel
theorem dL_law_381 : decode cL_law 381 = .ok (.iload 8, 2) := by decide +kernel
theorem dL_law_383 : decode cL_law 383 = .ok (.iload 9, 2) := by decide +kernel
theorem dL_law_385 : decode cL_law 385 = .ok (.iconst 1, 1) := by decide +kernel
theorem dL_law_386 : decode cL_law 386 = .ok (.invokevirtual 30, 3) := by decide +kernel
theorem dL_law_389 : decode cL_law 389 = .ok (.ifCond .ne 7, 3) := by decide +kernel
theorem dL_law_392 : decode cL_law 392 = .ok (.iconst 1, 1) := by decide +kernel
theorem dL_law_393 : decode cL_law 393 = .ok (.goto 4, 3) := by decide +kernel
theorem dL_law_396 : decode cL_law 396 = .ok (.iconst 0, 1) := by decide +kernel
theorem dL_law_397 : decode cL_law 397 = .ok (.istore 10, 2) := by decide +kernel
theorem dL_law_399 : decode cL_law 399 = .ok (.aload_n 1, 1) := by decide +kernel
theorem dL_law_400 : decode cL_law 400 = .ok (.iload 8, 2) := by decide +kernel
theorem dL_law_402 : decode cL_law 402 = .ok (.iload 9, 2) := by decide +kernel
theorem dL_law_404 : decode cL_law 404 = .ok (.iconst 0, 1) := by decide +kernel
theorem dL_law_405 : decode cL_law 405 = .ok (.invokevirtual 30, 3) := by decide +kernel
theorem dL_law_408 : decode cL_law 408 = .ok (.iconst 1, 1) := by decide +kernel
theorem dL_law_409 : decode cL_law 409 = .ok (.if_icmp .ne 7, 3) := by decide +kernel
theorem dL_law_412 : decode cL_law 412 = .ok (.iconst 1, 1) := by decide +kernel
theorem dL_law_413 : decode cL_law 413 = .ok (.goto 4, 3) := by decide +kernel
theorem dL_law_416 : decode cL_law 416 = .ok (.iconst 0, 1) := by decide +kernel
theorem dL_law_417 : decode cL_law 417 = .ok (.istore 11, 2) := by decide +kernel
theorem dL_law_419 : decode cL_law 419 = .ok (.iload 10, 2) := by decide +kernel
theorem dL_law_421 : decode cL_law 421 = .ok (.ifCond .eq 28, 3) := by decide +kernel
theorem dL_law_424 : decode cL_law 424 = .ok (.aload_n 1, 1) := by decide +kernel
theorem dL_law_425 : decode cL_law 425 = .ok (.iload 8, 2) := by decide +kernel
theorem dL_law_427 : decode cL_law 427 = .ok (.iload 9, 2) := by decide +kernel
theorem dL_law_429 : decode cL_law 429 = .ok (.iload 11, 2) := by decide +kernel
theorem dL_law_431 : decode cL_law 431 = .ok (.ifCond .ne 7, 3) := by decide +kernel
theorem dL_law_434 : decode cL_law 434 = .ok (.iconst 1, 1) := by decide +kernel
theorem dL_law_435 : decode cL_law 435 = .ok (.goto 4, 3) := by decide +kernel
theorem dL_law_438 : decode cL_law 438 = .ok (.iconst 0, 1) := by decide +kernel
theorem dL_law_439 : decode cL_law 439 = .ok (.invokevirtual 130, 3) := by decide +kernel
theorem dL_law_442 : decode cL_law 442 = .ok (.iload 11, 2) := by decide +kernel
theorem dL_law_444 : decode cL_law 444 = .ok (.if_icmp .eq 5, 3) := by decide +kernel
theorem dL_law_447 : decode cL_law 447 = .ok (.iconst 0, 1) := by decide +kernel
theorem dL_law_448 : decode cL_law 448 = .ok (.ireturn, 1) := by decide +kernel
theorem dL_law_449 : decode cL_law 449 = .ok (.iinc 6 1, 3) := by decide +kernel
theorem dL_law_452 : decode cL_law 452 = .ok (.goto (-118), 3) := by decide +kernel
theorem dL_law_455 : decode cL_law 455 = .ok (.aload_n 1, 1) := by decide +kernel
theorem dL_law_456 : decode cL_law 456 = .ok (.aload_n 0, 1) := by decide +kernel
theorem dL_law_457 : decode cL_law 457 = .ok (.bipush 15, 2) := by decide +kernel
theorem dL_law_459 : decode cL_law 459 = .ok (.invokestatic 124, 3) := by decide +kernel
theorem dL_law_462 : decode cL_law 462 = .ok (.invokestatic 140, 3) := by decide +kernel
theorem dL_law_465 : decode cL_law 465 = .ok (.ifCond .ne 5, 3) := by decide +kernel
theorem dL_law_468 : decode cL_law 468 = .ok (.iconst 0, 1) := by decide +kernel
theorem dL_law_469 : decode cL_law 469 = .ok (.ireturn, 1) := by decide +kernel
theorem dL_law_470 : decode cL_law 470 = .ok (.aload_n 1, 1) := by decide +kernel
theorem dL_law_471 : decode cL_law 471 = .ok (.iconst 0, 1) := by decide +kernel
theorem dL_law_472 : decode cL_law 472 = .ok (.invokestatic 34, 3) := by decide +kernel
theorem dL_law_475 : decode cL_law 475 = .ok (.lstore 6, 2) := by decide +kernel
theorem dL_law_477 : decode cL_law 477 = .ok (.aload_n 1, 1) := by decide +kernel
theorem dL_law_478 : decode cL_law 478 = .ok (.iconst 1, 1) := by decide +kernel
theorem dL_law_479 : decode cL_law 479 = .ok (.invokestatic 34, 3) := by decide +kernel
theorem dL_law_482 : decode cL_law 482 = .ok (.lstore 8, 2) := by decide +kernel
theorem dL_law_484 : decode cL_law 484 = .ok (.aload_n 1, 1) := by decide +kernel
theorem dL_law_485 : decode cL_law 485 = .ok (.invokevirtual 77, 3) := by decide +kernel
theorem dL_law_488 : decode cL_law 488 = .ok (.istore 10, 2) := by decide +kernel
theorem dL_law_490 : decode cL_law 490 = .ok (.aload_n 1, 1) := by decide +kernel
theorem dL_law_491 : decode cL_law 491 = .ok (.iconst 0, 1) := by decide +kernel
theorem dL_law_492 : decode cL_law 492 = .ok (.iconst 1, 1) := by decide +kernel
theorem dL_law_493 : decode cL_law 493 = .ok (.invokevirtual 44, 3) := by decide +kernel
theorem dL_law_496 : decode cL_law 496 = .ok (.istore 11, 2) := by decide +kernel
theorem dL_law_498 : decode cL_law 498 = .ok (.aload_n 1, 1) := by decide +kernel
theorem dL_law_499 : decode cL_law 499 = .ok (.invokevirtual 143, 3) := by decide +kernel
theorem dL_law_502 : decode cL_law 502 = .ok (.iload_n 3, 1) := by decide +kernel
theorem dL_law_503 : decode cL_law 503 = .ok (.if_icmp .ne 66, 3) := by decide +kernel
theorem dL_law_506 : decode cL_law 506 = .ok (.aload_n 1, 1) := by decide +kernel
theorem dL_law_507 : decode cL_law 507 = .ok (.invokestatic 73, 3) := by decide +kernel
theorem dL_law_510 : decode cL_law 510 = .ok (.ifCond .eq 59, 3) := by decide +kernel
theorem dL_law_513 : decode cL_law 513 = .ok (.aload_n 1, 1) := by decide +kernel
theorem dL_law_514 : decode cL_law 514 = .ok (.invokevirtual 77, 3) := by decide +kernel
theorem dL_law_517 : decode cL_law 517 = .ok (.iload 10, 2) := by decide +kernel
theorem dL_law_519 : decode cL_law 519 = .ok (.if_icmp .ne 50, 3) := by decide +kernel
theorem dL_law_522 : decode cL_law 522 = .ok (.aload_n 1, 1) := by decide +kernel
theorem dL_law_523 : decode cL_law 523 = .ok (.aload_n 1, 1) := by decide +kernel
theorem dL_law_524 : decode cL_law 524 = .ok (.iconst 0, 1) := by decide +kernel
theorem dL_law_525 : decode cL_law 525 = .ok (.invokevirtual 27, 3) := by decide +kernel
theorem dL_law_528 : decode cL_law 528 = .ok (.aload_n 1, 1) := by decide +kernel
theorem dL_law_529 : decode cL_law 529 = .ok (.iconst 1, 1) := by decide +kernel
theorem dL_law_530 : decode cL_law 530 = .ok (.invokevirtual 27, 3) := by decide +kernel
theorem dL_law_533 : decode cL_law 533 = .ok (.iadd, 1) := by decide +kernel
theorem dL_law_534 : decode cL_law 534 = .ok (.iconst 1, 1) := by decide +kernel
theorem dL_law_535 : decode cL_law 535 = .ok (.isub, 1) := by decide +kernel
theorem dL_law_536 : decode cL_law 536 = .ok (.iconst 1, 1) := by decide +kernel
theorem dL_law_537 : decode cL_law 537 = .ok (.invokevirtual 44, 3) := by decide +kernel
theorem dL_law_540 : decode cL_law 540 = .ok (.iload 11, 2) := by decide +kernel
theorem dL_law_542 : decode cL_law 542 = .ok (.if_icmp .ne 27, 3) := by decide +kernel
theorem dL_law_545 : decode cL_law 545 = .ok (.aload_n 1, 1) := by decide +kernel
theorem dL_law_546 : decode cL_law 546 = .ok (.invokevirtual 143, 3) := by decide +kernel
theorem dL_law_549 : decode cL_law 549 = .ok (.iload_n 2, 1) := by decide +kernel
theorem dL_law_550 : decode cL_law 550 = .ok (.if_icmp .ne 19, 3) := by decide +kernel
theorem dL_law_553 : decode cL_law 553 = .ok (.aload_n 1, 1) := by decide +kernel
theorem dL_law_554 : decode cL_law 554 = .ok (.invokevirtual 143, 3) := by decide +kernel
theorem dL_law_557 : decode cL_law 557 = .ok (.iload_n 3, 1) := by decide +kernel
theorem dL_law_558 : decode cL_law 558 = .ok (.if_icmp .ne 11, 3) := by decide +kernel
theorem dL_law_561 : decode cL_law 561 = .ok (.aload_n 1, 1) := by decide +kernel
theorem dL_law_562 : decode cL_law 562 = .ok (.invokevirtual 143, 3) := by decide +kernel
theorem dL_law_565 : decode cL_law 565 = .ok (.iload_n 2, 1) := by decide +kernel
theorem dL_law_566 : decode cL_law 566 = .ok (.if_icmp .eq 5, 3) := by decide +kernel
theorem dL_law_569 : decode cL_law 569 = .ok (.iconst 0, 1) := by decide +kernel
theorem dL_law_570 : decode cL_law 570 = .ok (.ireturn, 1) := by decide +kernel
theorem dL_law_571 : decode cL_law 571 = .ok (.aload_n 1, 1) := by decide +kernel
theorem dL_law_572 : decode cL_law 572 = .ok (.iconst 0, 1) := by decide +kernel
theorem dL_law_573 : decode cL_law 573 = .ok (.invokestatic 34, 3) := by decide +kernel
theorem dL_law_576 : decode cL_law 576 = .ok (.lload 6, 2) := by decide +kernel
theorem dL_law_578 : decode cL_law 578 = .ok (.lcmp, 1) := by decide +kernel
theorem dL_law_579 : decode cL_law 579 = .ok (.ifCond .ne 56, 3) := by decide +kernel
theorem dL_law_582 : decode cL_law 582 = .ok (.aload_n 1, 1) := by decide +kernel
theorem dL_law_583 : decode cL_law 583 = .ok (.iconst 1, 1) := by decide +kernel
theorem dL_law_584 : decode cL_law 584 = .ok (.invokestatic 34, 3) := by decide +kernel
theorem dL_law_587 : decode cL_law 587 = .ok (.lload 8, 2) := by decide +kernel
theorem dL_law_589 : decode cL_law 589 = .ok (.lcmp, 1) := by decide +kernel
theorem dL_law_590 : decode cL_law 590 = .ok (.ifCond .ne 45, 3) := by decide +kernel
theorem dL_law_593 : decode cL_law 593 = .ok (.aload_n 1, 1) := by decide +kernel
theorem dL_law_594 : decode cL_law 594 = .ok (.invokevirtual 77, 3) := by decide +kernel
theorem dL_law_597 : decode cL_law 597 = .ok (.iload 10, 2) := by decide +kernel
theorem dL_law_599 : decode cL_law 599 = .ok (.if_icmp .ne 36, 3) := by decide +kernel
theorem dL_law_602 : decode cL_law 602 = .ok (.aload_n 1, 1) := by decide +kernel
theorem dL_law_603 : decode cL_law 603 = .ok (.invokestatic 118, 3) := by decide +kernel
theorem dL_law_606 : decode cL_law 606 = .ok (.ifCond .lt 29, 3) := by decide +kernel
theorem dL_law_609 : decode cL_law 609 = .ok (.aload_n 1, 1) := by decide +kernel
theorem dL_law_610 : decode cL_law 610 = .ok (.iconst 0, 1) := by decide +kernel
theorem dL_law_611 : decode cL_law 611 = .ok (.invokevirtual 27, 3) := by decide +kernel
theorem dL_law_614 : decode cL_law 614 = .ok (.iload_n 3, 1) := by decide +kernel
theorem dL_law_615 : decode cL_law 615 = .ok (.if_icmp .ne 20, 3) := by decide +kernel
theorem dL_law_618 : decode cL_law 618 = .ok (.aload_n 1, 1) := by decide +kernel
theorem dL_law_619 : decode cL_law 619 = .ok (.aload_n 0, 1) := by decide +kernel
theorem dL_law_620 : decode cL_law 620 = .ok (.bipush 16, 2) := by decide +kernel
theorem dL_law_622 : decode cL_law 622 = .ok (.invokestatic 124, 3) := by decide +kernel
theorem dL_law_625 : decode cL_law 625 = .ok (.invokestatic 140, 3) := by decide +kernel
theorem dL_law_628 : decode cL_law 628 = .ok (.ifCond .eq 7, 3) := by decide +kernel
theorem dL_law_631 : decode cL_law 631 = .ok (.iconst 1, 1) := by decide +kernel
theorem dL_law_632 : decode cL_law 632 = .ok (.goto 4, 3) := by decide +kernel
theorem dL_law_635 : decode cL_law 635 = .ok (.iconst 0, 1) := by decide +kernel
theorem dL_law_636 : decode cL_law 636 = .ok (.ireturn, 1) := by decide +kernel
