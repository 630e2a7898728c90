/-! GENERATED: the law: its decode rows, its program text, its walk. -/
theorem eL_law_13 : decode code 13 = .ok (.aload_n 1, 1) := by decide +kernel
theorem eL_law_14 : decode code 14 = .ok (.aload_n 0, 1) := by decide +kernel
theorem eL_law_15 : decode code 15 = .ok (.aload_n 2, 1) := by decide +kernel
theorem eL_law_16 : decode code 16 = .ok (.invokestatic 83, 3) := by decide +kernel
theorem eL_law_19 : decode code 19 = .ok (.ifCond .eq 11, 3) := by decide +kernel
theorem eL_law_22 : decode code 22 = .ok (.aload_n 1, 1) := by decide +kernel
theorem eL_law_23 : decode code 23 = .ok (.invokevirtual 87, 3) := by decide +kernel
theorem eL_law_26 : decode code 26 = .ok (.iconst 1, 1) := by decide +kernel
theorem eL_law_27 : decode code 27 = .ok (.if_icmp .eq 5, 3) := by decide +kernel
theorem eL_law_30 : decode code 30 = .ok (.iconst 0, 1) := by decide +kernel
theorem eL_law_32 : decode code 32 = .ok (.aload_n 2, 1) := by decide +kernel
theorem eL_law_33 : decode code 33 = .ok (.iconst 5, 1) := by decide +kernel
theorem eL_law_34 : decode code 34 = .ok (.iaload, 1) := by decide +kernel
theorem eL_law_35 : decode code 35 = .ok (.istore_n 3, 1) := by decide +kernel
theorem eL_law_36 : decode code 36 = .ok (.aload_n 2, 1) := by decide +kernel
theorem eL_law_37 : decode code 37 = .ok (.iconst 0, 1) := by decide +kernel
theorem eL_law_38 : decode code 38 = .ok (.iaload, 1) := by decide +kernel
theorem eL_law_39 : decode code 39 = .ok (.istore 4, 2) := by decide +kernel
theorem eL_law_41 : decode code 41 = .ok (.iconst 0, 1) := by decide +kernel
theorem eL_law_42 : decode code 42 = .ok (.istore 5, 2) := by decide +kernel
theorem eL_law_44 : decode code 44 = .ok (.iload 5, 2) := by decide +kernel
theorem eL_law_46 : decode code 46 = .ok (.iconst 4, 1) := by decide +kernel
theorem eL_law_47 : decode code 47 = .ok (.if_icmp .ge 1081, 3) := by decide +kernel
theorem eL_law_50 : decode code 50 = .ok (.aload_n 0, 1) := by decide +kernel
theorem eL_law_51 : decode code 51 = .ok (.bipush 6, 2) := by decide +kernel
theorem eL_law_53 : decode code 53 = .ok (.iload 5, 2) := by decide +kernel
theorem eL_law_55 : decode code 55 = .ok (.iadd, 1) := by decide +kernel
theorem eL_law_56 : decode code 56 = .ok (.invokestatic 50, 3) := by decide +kernel
theorem eL_law_59 : decode code 59 = .ok (.istore 6, 2) := by decide +kernel
theorem eL_law_61 : decode code 61 = .ok (.iload 6, 2) := by decide +kernel
theorem eL_law_63 : decode code 63 = .ok (.iload 6, 2) := by decide +kernel
theorem eL_law_65 : decode code 65 = .ok (.iconst 4, 1) := by decide +kernel
theorem eL_law_66 : decode code 66 = .ok (.ishr, 1) := by decide +kernel
theorem eL_law_67 : decode code 67 = .ok (.iconst 1, 1) := by decide +kernel
theorem eL_law_68 : decode code 68 = .ok (.iand, 1) := by decide +kernel
theorem eL_law_69 : decode code 69 = .ok (.ifCond .ne 7, 3) := by decide +kernel
theorem eL_law_72 : decode code 72 = .ok (.iconst 3, 1) := by decide +kernel
theorem eL_law_73 : decode code 73 = .ok (.goto 5, 3) := by decide +kernel
theorem eL_law_76 : decode code 76 = .ok (.bipush 10, 2) := by decide +kernel
theorem eL_law_78 : decode code 78 = .ok (.invokestatic 52, 3) := by decide +kernel
theorem eL_law_81 : decode code 81 = .ok (.istore 7, 2) := by decide +kernel
theorem eL_law_83 : decode code 83 = .ok (.iconst 1, 1) := by decide +kernel
theorem eL_law_84 : decode code 84 = .ok (.iload 6, 2) := by decide +kernel
theorem eL_law_86 : decode code 86 = .ok (.iconst 5, 1) := by decide +kernel
theorem eL_law_87 : decode code 87 = .ok (.ishr, 1) := by decide +kernel
theorem eL_law_88 : decode code 88 = .ok (.bipush 12, 2) := by decide +kernel
theorem eL_law_90 : decode code 90 = .ok (.invokestatic 52, 3) := by decide +kernel
theorem eL_law_93 : decode code 93 = .ok (.iadd, 1) := by decide +kernel
theorem eL_law_94 : decode code 94 = .ok (.istore 8, 2) := by decide +kernel
theorem eL_law_96 : decode code 96 = .ok (.aload_n 1, 1) := by decide +kernel
theorem eL_law_97 : decode code 97 = .ok (.iload 7, 2) := by decide +kernel
theorem eL_law_99 : decode code 99 = .ok (.iload 8, 2) := by decide +kernel
theorem eL_law_101 : decode code 101 = .ok (.invokevirtual 91, 3) := by decide +kernel
theorem eL_law_104 : decode code 104 = .ok (.istore 9, 2) := by decide +kernel
theorem eL_law_106 : decode code 106 = .ok (.aload_n 1, 1) := by decide +kernel
theorem eL_law_107 : decode code 107 = .ok (.iload 8, 2) := by decide +kernel
theorem eL_law_109 : decode code 109 = .ok (.invokevirtual 94, 3) := by decide +kernel
theorem eL_law_112 : decode code 112 = .ok (.istore 10, 2) := by decide +kernel
theorem eL_law_114 : decode code 114 = .ok (.iload 10, 2) := by decide +kernel
theorem eL_law_116 : decode code 116 = .ok (.ldc 97, 2) := by decide +kernel
theorem eL_law_118 : decode code 118 = .ok (.if_icmp .ne 8, 3) := by decide +kernel
theorem eL_law_121 : decode code 121 = .ok (.ldc 97, 2) := by decide +kernel
theorem eL_law_123 : decode code 123 = .ok (.goto 11, 3) := by decide +kernel
theorem eL_law_126 : decode code 126 = .ok (.aload_n 1, 1) := by decide +kernel
theorem eL_law_127 : decode code 127 = .ok (.iload 10, 2) := by decide +kernel
theorem eL_law_129 : decode code 129 = .ok (.iload 8, 2) := by decide +kernel
theorem eL_law_131 : decode code 131 = .ok (.invokevirtual 91, 3) := by decide +kernel
theorem eL_law_134 : decode code 134 = .ok (.istore 11, 2) := by decide +kernel
theorem eL_law_136 : decode code 136 = .ok (.iload 9, 2) := by decide +kernel
theorem eL_law_138 : decode code 138 = .ok (.ldc 97, 2) := by decide +kernel
theorem eL_law_140 : decode code 140 = .ok (.if_icmp .eq 16, 3) := by decide +kernel
theorem eL_law_143 : decode code 143 = .ok (.iload 9, 2) := by decide +kernel
theorem eL_law_145 : decode code 145 = .ok (.ifCond .lt 73, 3) := by decide +kernel
theorem eL_law_148 : decode code 148 = .ok (.iload 9, 2) := by decide +kernel
theorem eL_law_150 : decode code 150 = .ok (.sipush 240, 3) := by decide +kernel
theorem eL_law_153 : decode code 153 = .ok (.if_icmp .gt 65, 3) := by decide +kernel
theorem eL_law_156 : decode code 156 = .ok (.iload 10, 2) := by decide +kernel
theorem eL_law_158 : decode code 158 = .ok (.ldc 97, 2) := by decide +kernel
theorem eL_law_160 : decode code 160 = .ok (.if_icmp .ne 13, 3) := by decide +kernel
theorem eL_law_163 : decode code 163 = .ok (.iload 9, 2) := by decide +kernel
theorem eL_law_165 : decode code 165 = .ok (.ldc 97, 2) := by decide +kernel
theorem eL_law_167 : decode code 167 = .ok (.if_icmp .eq 53, 3) := by decide +kernel
theorem eL_law_170 : decode code 170 = .ok (.goto 48, 3) := by decide +kernel
theorem eL_law_173 : decode code 173 = .ok (.iload 10, 2) := by decide +kernel
theorem eL_law_175 : decode code 175 = .ok (.ifCond .lt 43, 3) := by decide +kernel
theorem eL_law_178 : decode code 178 = .ok (.iload 10, 2) := by decide +kernel
theorem eL_law_180 : decode code 180 = .ok (.bipush 9, 2) := by decide +kernel
theorem eL_law_182 : decode code 182 = .ok (.if_icmp .gt 36, 3) := by decide +kernel
theorem eL_law_185 : decode code 185 = .ok (.iload 11, 2) := by decide +kernel
theorem eL_law_187 : decode code 187 = .ok (.ifCond .lt 31, 3) := by decide +kernel
theorem eL_law_190 : decode code 190 = .ok (.iload 9, 2) := by decide +kernel
theorem eL_law_192 : decode code 192 = .ok (.ldc 97, 2) := by decide +kernel
theorem eL_law_194 : decode code 194 = .ok (.if_icmp .eq 26, 3) := by decide +kernel
theorem eL_law_197 : decode code 197 = .ok (.iload 11, 2) := by decide +kernel
theorem eL_law_199 : decode code 199 = .ok (.iload 9, 2) := by decide +kernel
theorem eL_law_201 : decode code 201 = .ok (.if_icmp .gt 17, 3) := by decide +kernel
theorem eL_law_204 : decode code 204 = .ok (.iload 11, 2) := by decide +kernel
theorem eL_law_206 : decode code 206 = .ok (.iload 9, 2) := by decide +kernel
theorem eL_law_208 : decode code 208 = .ok (.if_icmp .ne 12, 3) := by decide +kernel
theorem eL_law_211 : decode code 211 = .ok (.iload 10, 2) := by decide +kernel
theorem eL_law_213 : decode code 213 = .ok (.iload 7, 2) := by decide +kernel
theorem eL_law_215 : decode code 215 = .ok (.if_icmp .le 5, 3) := by decide +kernel
theorem eL_law_218 : decode code 218 = .ok (.iconst 0, 1) := by decide +kernel
theorem eL_law_220 : decode code 220 = .ok (.iconst 1, 1) := by decide +kernel
theorem eL_law_221 : decode code 221 = .ok (.iload 6, 2) := by decide +kernel
theorem eL_law_223 : decode code 223 = .ok (.bipush 9, 2) := by decide +kernel
theorem eL_law_225 : decode code 225 = .ok (.ishr, 1) := by decide +kernel
theorem eL_law_226 : decode code 226 = .ok (.bipush 40, 2) := by decide +kernel
theorem eL_law_228 : decode code 228 = .ok (.invokestatic 52, 3) := by decide +kernel
theorem eL_law_231 : decode code 231 = .ok (.iadd, 1) := by decide +kernel
theorem eL_law_232 : decode code 232 = .ok (.istore 12, 2) := by decide +kernel
theorem eL_law_234 : decode code 234 = .ok (.aload_n 1, 1) := by decide +kernel
theorem eL_law_235 : decode code 235 = .ok (.iload 7, 2) := by decide +kernel
theorem eL_law_237 : decode code 237 = .ok (.iload 12, 2) := by decide +kernel
theorem eL_law_239 : decode code 239 = .ok (.invokevirtual 98, 3) := by decide +kernel
theorem eL_law_242 : decode code 242 = .ok (.istore 13, 2) := by decide +kernel
theorem eL_law_244 : decode code 244 = .ok (.aload_n 1, 1) := by decide +kernel
theorem eL_law_245 : decode code 245 = .ok (.iload 7, 2) := by decide +kernel
theorem eL_law_247 : decode code 247 = .ok (.iload 12, 2) := by decide +kernel
theorem eL_law_249 : decode code 249 = .ok (.invokevirtual 101, 3) := by decide +kernel
theorem eL_law_252 : decode code 252 = .ok (.istore 14, 2) := by decide +kernel
theorem eL_law_254 : decode code 254 = .ok (.aload_n 1, 1) := by decide +kernel
theorem eL_law_255 : decode code 255 = .ok (.iload 7, 2) := by decide +kernel
theorem eL_law_257 : decode code 257 = .ok (.iload 12, 2) := by decide +kernel
theorem eL_law_259 : decode code 259 = .ok (.invokevirtual 104, 3) := by decide +kernel
theorem eL_law_262 : decode code 262 = .ok (.istore 15, 2) := by decide +kernel
theorem eL_law_264 : decode code 264 = .ok (.aload_n 1, 1) := by decide +kernel
theorem eL_law_265 : decode code 265 = .ok (.iload 7, 2) := by decide +kernel
theorem eL_law_267 : decode code 267 = .ok (.iload 12, 2) := by decide +kernel
theorem eL_law_269 : decode code 269 = .ok (.invokevirtual 107, 3) := by decide +kernel
theorem eL_law_272 : decode code 272 = .ok (.istore 16, 2) := by decide +kernel
theorem eL_law_274 : decode code 274 = .ok (.aload_n 1, 1) := by decide +kernel
theorem eL_law_275 : decode code 275 = .ok (.iload 6, 2) := by decide +kernel
theorem eL_law_277 : decode code 277 = .ok (.bipush 14, 2) := by decide +kernel
theorem eL_law_279 : decode code 279 = .ok (.ishr, 1) := by decide +kernel
theorem eL_law_280 : decode code 280 = .ok (.iload_n 3, 1) := by decide +kernel
theorem eL_law_281 : decode code 281 = .ok (.invokestatic 52, 3) := by decide +kernel
theorem eL_law_284 : decode code 284 = .ok (.iload 7, 2) := by decide +kernel
theorem eL_law_286 : decode code 286 = .ok (.iload 12, 2) := by decide +kernel
theorem eL_law_288 : decode code 288 = .ok (.invokevirtual 110, 3) := by decide +kernel
theorem eL_law_291 : decode code 291 = .ok (.istore 17, 2) := by decide +kernel
theorem eL_law_293 : decode code 293 = .ok (.iconst 0, 1) := by decide +kernel
theorem eL_law_294 : decode code 294 = .ok (.istore 18, 2) := by decide +kernel
theorem eL_law_296 : decode code 296 = .ok (.iconst 0, 1) := by decide +kernel
theorem eL_law_297 : decode code 297 = .ok (.istore 19, 2) := by decide +kernel
theorem eL_law_299 : decode code 299 = .ok (.iconst 0, 1) := by decide +kernel
theorem eL_law_300 : decode code 300 = .ok (.istore 20, 2) := by decide +kernel
theorem eL_law_302 : decode code 302 = .ok (.iconst 0, 1) := by decide +kernel
theorem eL_law_303 : decode code 303 = .ok (.istore 21, 2) := by decide +kernel
theorem eL_law_305 : decode code 305 = .ok (.ldc 97, 2) := by decide +kernel
theorem eL_law_307 : decode code 307 = .ok (.istore 22, 2) := by decide +kernel
theorem eL_law_309 : decode code 309 = .ok (.iconst 0, 1) := by decide +kernel
theorem eL_law_310 : decode code 310 = .ok (.istore 23, 2) := by decide +kernel
theorem eL_law_312 : decode code 312 = .ok (.iload 23, 2) := by decide +kernel
theorem eL_law_314 : decode code 314 = .ok (.bipush 60, 2) := by decide +kernel
theorem eL_law_316 : decode code 316 = .ok (.if_icmp .ge 134, 3) := by decide +kernel
theorem eL_law_319 : decode code 319 = .ok (.aload_n 1, 1) := by decide +kernel
theorem eL_law_320 : decode code 320 = .ok (.iload 7, 2) := by decide +kernel
theorem eL_law_322 : decode code 322 = .ok (.sipush 1023, 3) := by decide +kernel
theorem eL_law_325 : decode code 325 = .ok (.invokestatic 113, 3) := by decide +kernel
theorem eL_law_328 : decode code 328 = .ok (.istore 24, 2) := by decide +kernel
theorem eL_law_330 : decode code 330 = .ok (.iload 24, 2) := by decide +kernel
theorem eL_law_332 : decode code 332 = .ok (.ifCond .eq 10, 3) := by decide +kernel
theorem eL_law_335 : decode code 335 = .ok (.iload 21, 2) := by decide +kernel
theorem eL_law_337 : decode code 337 = .ok (.iconst 1, 1) := by decide +kernel
theorem eL_law_338 : decode code 338 = .ok (.iadd, 1) := by decide +kernel
theorem eL_law_339 : decode code 339 = .ok (.goto 4, 3) := by decide +kernel
theorem eL_law_342 : decode code 342 = .ok (.iconst 0, 1) := by decide +kernel
theorem eL_law_343 : decode code 343 = .ok (.istore 21, 2) := by decide +kernel
theorem eL_law_345 : decode code 345 = .ok (.iload 21, 2) := by decide +kernel
theorem eL_law_347 : decode code 347 = .ok (.iload 8, 2) := by decide +kernel
theorem eL_law_349 : decode code 349 = .ok (.if_icmp .ne 17, 3) := by decide +kernel
theorem eL_law_352 : decode code 352 = .ok (.iload 22, 2) := by decide +kernel
theorem eL_law_354 : decode code 354 = .ok (.ifCond .ge 12, 3) := by decide +kernel
theorem eL_law_357 : decode code 357 = .ok (.iload 23, 2) := by decide +kernel
theorem eL_law_359 : decode code 359 = .ok (.iconst 1, 1) := by decide +kernel
theorem eL_law_360 : decode code 360 = .ok (.iadd, 1) := by decide +kernel
theorem eL_law_361 : decode code 361 = .ok (.iload 8, 2) := by decide +kernel
theorem eL_law_363 : decode code 363 = .ok (.isub, 1) := by decide +kernel
theorem eL_law_364 : decode code 364 = .ok (.istore 22, 2) := by decide +kernel
theorem eL_law_366 : decode code 366 = .ok (.iload 23, 2) := by decide +kernel
theorem eL_law_368 : decode code 368 = .ok (.iload 12, 2) := by decide +kernel
theorem eL_law_370 : decode code 370 = .ok (.if_icmp .ge 57, 3) := by decide +kernel
theorem eL_law_373 : decode code 373 = .ok (.iload 24, 2) := by decide +kernel
theorem eL_law_375 : decode code 375 = .ok (.ifCond .eq 6, 3) := by decide +kernel
theorem eL_law_378 : decode code 378 = .ok (.iinc 18 1, 3) := by decide +kernel
theorem eL_law_381 : decode code 381 = .ok (.iload 14, 2) := by decide +kernel
theorem eL_law_383 : decode code 383 = .ok (.ifCond .lt 25, 3) := by decide +kernel
theorem eL_law_386 : decode code 386 = .ok (.aload_n 1, 1) := by decide +kernel
theorem eL_law_387 : decode code 387 = .ok (.iload 7, 2) := by decide +kernel
theorem eL_law_389 : decode code 389 = .ok (.sipush 1023, 3) := by decide +kernel
theorem eL_law_392 : decode code 392 = .ok (.iconst 1, 1) := by decide +kernel
theorem eL_law_393 : decode code 393 = .ok (.iload 14, 2) := by decide +kernel
theorem eL_law_395 : decode code 395 = .ok (.ishl, 1) := by decide +kernel
theorem eL_law_396 : decode code 396 = .ok (.iconst (-1), 1) := by decide +kernel
theorem eL_law_397 : decode code 397 = .ok (.ixor, 1) := by decide +kernel
theorem eL_law_398 : decode code 398 = .ok (.iand, 1) := by decide +kernel
theorem eL_law_399 : decode code 399 = .ok (.invokestatic 113, 3) := by decide +kernel
theorem eL_law_402 : decode code 402 = .ok (.ifCond .eq 6, 3) := by decide +kernel
theorem eL_law_405 : decode code 405 = .ok (.iinc 19 1, 3) := by decide +kernel
theorem eL_law_408 : decode code 408 = .ok (.iload 15, 2) := by decide +kernel
theorem eL_law_410 : decode code 410 = .ok (.ifCond .lt 17, 3) := by decide +kernel
theorem eL_law_413 : decode code 413 = .ok (.aload_n 1, 1) := by decide +kernel
theorem eL_law_414 : decode code 414 = .ok (.iload 7, 2) := by decide +kernel
theorem eL_law_416 : decode code 416 = .ok (.iload 15, 2) := by decide +kernel
theorem eL_law_418 : decode code 418 = .ok (.invokestatic 113, 3) := by decide +kernel
theorem eL_law_421 : decode code 421 = .ok (.ifCond .eq 6, 3) := by decide +kernel
theorem eL_law_424 : decode code 424 = .ok (.iinc 20 1, 3) := by decide +kernel
theorem eL_law_427 : decode code 427 = .ok (.aload_n 1, 1) := by decide +kernel
theorem eL_law_428 : decode code 428 = .ok (.iconst 1, 1) := by decide +kernel
theorem eL_law_429 : decode code 429 = .ok (.invokevirtual 66, 3) := by decide +kernel
theorem eL_law_432 : decode code 432 = .ok (.iload 4, 2) := by decide +kernel
theorem eL_law_434 : decode code 434 = .ok (.iload 23, 2) := by decide +kernel
theorem eL_law_436 : decode code 436 = .ok (.iadd, 1) := by decide +kernel
theorem eL_law_437 : decode code 437 = .ok (.iconst 1, 1) := by decide +kernel
theorem eL_law_438 : decode code 438 = .ok (.iadd, 1) := by decide +kernel
theorem eL_law_439 : decode code 439 = .ok (.if_icmp .eq 5, 3) := by decide +kernel
theorem eL_law_442 : decode code 442 = .ok (.iconst 0, 1) := by decide +kernel
theorem eL_law_444 : decode code 444 = .ok (.iinc 23 1, 3) := by decide +kernel
theorem eL_law_447 : decode code 447 = .ok (.goto (-135), 3) := by decide +kernel
theorem eL_law_450 : decode code 450 = .ok (.iload 18, 2) := by decide +kernel
theorem eL_law_452 : decode code 452 = .ok (.iload 13, 2) := by decide +kernel
theorem eL_law_454 : decode code 454 = .ok (.if_icmp .ne 97, 3) := by decide +kernel
theorem eL_law_457 : decode code 457 = .ok (.iload 14, 2) := by decide +kernel
theorem eL_law_459 : decode code 459 = .ok (.ifCond .lt 10, 3) := by decide +kernel
theorem eL_law_462 : decode code 462 = .ok (.iload 19, 2) := by decide +kernel
theorem eL_law_464 : decode code 464 = .ok (.iload 18, 2) := by decide +kernel
theorem eL_law_466 : decode code 466 = .ok (.if_icmp .le 85, 3) := by decide +kernel
theorem eL_law_469 : decode code 469 = .ok (.iload 20, 2) := by decide +kernel
theorem eL_law_471 : decode code 471 = .ok (.ifCond .ne 80, 3) := by decide +kernel
theorem eL_law_474 : decode code 474 = .ok (.iload 15, 2) := by decide +kernel
theorem eL_law_476 : decode code 476 = .ok (.ldc 97, 2) := by decide +kernel
theorem eL_law_478 : decode code 478 = .ok (.if_icmp .ne 7, 3) := by decide +kernel
theorem eL_law_481 : decode code 481 = .ok (.iconst 1, 1) := by decide +kernel
theorem eL_law_482 : decode code 482 = .ok (.goto 4, 3) := by decide +kernel
theorem eL_law_485 : decode code 485 = .ok (.iconst 0, 1) := by decide +kernel
theorem eL_law_486 : decode code 486 = .ok (.iload 18, 2) := by decide +kernel
theorem eL_law_488 : decode code 488 = .ok (.ifCond .le 7, 3) := by decide +kernel
theorem eL_law_491 : decode code 491 = .ok (.iconst 1, 1) := by decide +kernel
theorem eL_law_492 : decode code 492 = .ok (.goto 4, 3) := by decide +kernel
theorem eL_law_495 : decode code 495 = .ok (.iconst 0, 1) := by decide +kernel
theorem eL_law_496 : decode code 496 = .ok (.if_icmp .ne 55, 3) := by decide +kernel
theorem eL_law_499 : decode code 499 = .ok (.iload 9, 2) := by decide +kernel
theorem eL_law_501 : decode code 501 = .ok (.ldc 97, 2) := by decide +kernel
theorem eL_law_503 : decode code 503 = .ok (.if_icmp .eq 23, 3) := by decide +kernel
theorem eL_law_506 : decode code 506 = .ok (.iload 9, 2) := by decide +kernel
theorem eL_law_508 : decode code 508 = .ok (.iload 8, 2) := by decide +kernel
theorem eL_law_510 : decode code 510 = .ok (.iadd, 1) := by decide +kernel
theorem eL_law_511 : decode code 511 = .ok (.bipush 60, 2) := by decide +kernel
theorem eL_law_513 : decode code 513 = .ok (.if_icmp .gt 13, 3) := by decide +kernel
theorem eL_law_516 : decode code 516 = .ok (.iload 22, 2) := by decide +kernel
theorem eL_law_518 : decode code 518 = .ok (.iload 9, 2) := by decide +kernel
theorem eL_law_520 : decode code 520 = .ok (.if_icmp .eq 13, 3) := by decide +kernel
theorem eL_law_523 : decode code 523 = .ok (.goto 28, 3) := by decide +kernel
theorem eL_law_526 : decode code 526 = .ok (.iload 22, 2) := by decide +kernel
theorem eL_law_528 : decode code 528 = .ok (.ldc 97, 2) := by decide +kernel
theorem eL_law_530 : decode code 530 = .ok (.if_icmp .ne 21, 3) := by decide +kernel
theorem eL_law_533 : decode code 533 = .ok (.aload_n 1, 1) := by decide +kernel
theorem eL_law_534 : decode code 534 = .ok (.invokevirtual 117, 3) := by decide +kernel
theorem eL_law_537 : decode code 537 = .ok (.iload_n 3, 1) := by decide +kernel
theorem eL_law_538 : decode code 538 = .ok (.if_icmp .ne 13, 3) := by decide +kernel
theorem eL_law_541 : decode code 541 = .ok (.aload_n 1, 1) := by decide +kernel
theorem eL_law_542 : decode code 542 = .ok (.iconst 0, 1) := by decide +kernel
theorem eL_law_543 : decode code 543 = .ok (.invokevirtual 74, 3) := by decide +kernel
theorem eL_law_546 : decode code 546 = .ok (.iload 4, 2) := by decide +kernel
theorem eL_law_548 : decode code 548 = .ok (.if_icmp .eq 5, 3) := by decide +kernel
theorem eL_law_551 : decode code 551 = .ok (.iconst 0, 1) := by decide +kernel
theorem eL_law_553 : decode code 553 = .ok (.iconst 0, 1) := by decide +kernel
theorem eL_law_554 : decode code 554 = .ok (.istore 23, 2) := by decide +kernel
theorem eL_law_556 : decode code 556 = .ok (.iload 23, 2) := by decide +kernel
theorem eL_law_558 : decode code 558 = .ok (.iload_n 3, 1) := by decide +kernel
theorem eL_law_559 : decode code 559 = .ok (.if_icmp .ge 92, 3) := by decide +kernel
theorem eL_law_562 : decode code 562 = .ok (.iload 15, 2) := by decide +kernel
theorem eL_law_564 : decode code 564 = .ok (.ifCond .lt 87, 3) := by decide +kernel
theorem eL_law_567 : decode code 567 = .ok (.iload 15, 2) := by decide +kernel
theorem eL_law_569 : decode code 569 = .ok (.iload 23, 2) := by decide +kernel
theorem eL_law_571 : decode code 571 = .ok (.ishr, 1) := by decide +kernel
theorem eL_law_572 : decode code 572 = .ok (.iconst 1, 1) := by decide +kernel
theorem eL_law_573 : decode code 573 = .ok (.iand, 1) := by decide +kernel
theorem eL_law_574 : decode code 574 = .ok (.ifCond .ne 6, 3) := by decide +kernel
theorem eL_law_577 : decode code 577 = .ok (.goto 68, 3) := by decide +kernel
theorem eL_law_580 : decode code 580 = .ok (.iconst 0, 1) := by decide +kernel
theorem eL_law_581 : decode code 581 = .ok (.istore 24, 2) := by decide +kernel
theorem eL_law_583 : decode code 583 = .ok (.iconst 0, 1) := by decide +kernel
theorem eL_law_584 : decode code 584 = .ok (.istore 25, 2) := by decide +kernel
theorem eL_law_586 : decode code 586 = .ok (.iload 25, 2) := by decide +kernel
theorem eL_law_588 : decode code 588 = .ok (.iload 12, 2) := by decide +kernel
theorem eL_law_590 : decode code 590 = .ok (.if_icmp .ge 40, 3) := by decide +kernel
theorem eL_law_593 : decode code 593 = .ok (.aload_n 1, 1) := by decide +kernel
theorem eL_law_594 : decode code 594 = .ok (.iload 7, 2) := by decide +kernel
theorem eL_law_596 : decode code 596 = .ok (.iload 15, 2) := by decide +kernel
theorem eL_law_598 : decode code 598 = .ok (.iconst 1, 1) := by decide +kernel
theorem eL_law_599 : decode code 599 = .ok (.iload 23, 2) := by decide +kernel
theorem eL_law_601 : decode code 601 = .ok (.ishl, 1) := by decide +kernel
theorem eL_law_602 : decode code 602 = .ok (.iconst (-1), 1) := by decide +kernel
theorem eL_law_603 : decode code 603 = .ok (.ixor, 1) := by decide +kernel
theorem eL_law_604 : decode code 604 = .ok (.iand, 1) := by decide +kernel
theorem eL_law_605 : decode code 605 = .ok (.invokestatic 113, 3) := by decide +kernel
theorem eL_law_608 : decode code 608 = .ok (.ifCond .eq 6, 3) := by decide +kernel
theorem eL_law_611 : decode code 611 = .ok (.iinc 24 1, 3) := by decide +kernel
theorem eL_law_614 : decode code 614 = .ok (.aload_n 1, 1) := by decide +kernel
theorem eL_law_615 : decode code 615 = .ok (.iconst 1, 1) := by decide +kernel
theorem eL_law_616 : decode code 616 = .ok (.invokevirtual 66, 3) := by decide +kernel
theorem eL_law_619 : decode code 619 = .ok (.ifCond .ge 5, 3) := by decide +kernel
theorem eL_law_622 : decode code 622 = .ok (.iconst 0, 1) := by decide +kernel
theorem eL_law_624 : decode code 624 = .ok (.iinc 25 1, 3) := by decide +kernel
theorem eL_law_627 : decode code 627 = .ok (.goto (-41), 3) := by decide +kernel
theorem eL_law_630 : decode code 630 = .ok (.iload 24, 2) := by decide +kernel
theorem eL_law_632 : decode code 632 = .ok (.ifCond .eq 11, 3) := by decide +kernel
theorem eL_law_635 : decode code 635 = .ok (.aload_n 1, 1) := by decide +kernel
theorem eL_law_636 : decode code 636 = .ok (.invokevirtual 117, 3) := by decide +kernel
theorem eL_law_639 : decode code 639 = .ok (.iload_n 3, 1) := by decide +kernel
theorem eL_law_640 : decode code 640 = .ok (.if_icmp .eq 5, 3) := by decide +kernel
theorem eL_law_643 : decode code 643 = .ok (.iconst 0, 1) := by decide +kernel
theorem eL_law_645 : decode code 645 = .ok (.iinc 23 1, 3) := by decide +kernel
theorem eL_law_648 : decode code 648 = .ok (.goto (-92), 3) := by decide +kernel
theorem eL_law_651 : decode code 651 = .ok (.iload 16, 2) := by decide +kernel
theorem eL_law_653 : decode code 653 = .ok (.iconst 1, 1) := by decide +kernel
theorem eL_law_654 : decode code 654 = .ok (.if_icmp .lt 23, 3) := by decide +kernel
theorem eL_law_657 : decode code 657 = .ok (.iload 16, 2) := by decide +kernel
theorem eL_law_659 : decode code 659 = .ok (.bipush 60, 2) := by decide +kernel
theorem eL_law_661 : decode code 661 = .ok (.if_icmp .gt 16, 3) := by decide +kernel
theorem eL_law_664 : decode code 664 = .ok (.aload_n 1, 1) := by decide +kernel
theorem eL_law_665 : decode code 665 = .ok (.iconst 0, 1) := by decide +kernel
theorem eL_law_666 : decode code 666 = .ok (.iload 16, 2) := by decide +kernel
theorem eL_law_668 : decode code 668 = .ok (.invokevirtual 56, 3) := by decide +kernel
theorem eL_law_671 : decode code 671 = .ok (.aload_n 2, 1) := by decide +kernel
theorem eL_law_672 : decode code 672 = .ok (.iconst 1, 1) := by decide +kernel
theorem eL_law_673 : decode code 673 = .ok (.iaload, 1) := by decide +kernel
theorem eL_law_674 : decode code 674 = .ok (.if_icmp .eq 5, 3) := by decide +kernel
theorem eL_law_677 : decode code 677 = .ok (.iconst 0, 1) := by decide +kernel
theorem eL_law_679 : decode code 679 = .ok (.aload_n 1, 1) := by decide +kernel
theorem eL_law_680 : decode code 680 = .ok (.iload 7, 2) := by decide +kernel
theorem eL_law_682 : decode code 682 = .ok (.iload 12, 2) := by decide +kernel
theorem eL_law_684 : decode code 684 = .ok (.invokevirtual 98, 3) := by decide +kernel
theorem eL_law_687 : decode code 687 = .ok (.istore 23, 2) := by decide +kernel
theorem eL_law_689 : decode code 689 = .ok (.iconst 0, 1) := by decide +kernel
theorem eL_law_690 : decode code 690 = .ok (.istore 24, 2) := by decide +kernel
theorem eL_law_692 : decode code 692 = .ok (.iload 24, 2) := by decide +kernel
theorem eL_law_694 : decode code 694 = .ok (.bipush 6, 2) := by decide +kernel
theorem eL_law_696 : decode code 696 = .ok (.if_icmp .ge 71, 3) := by decide +kernel
theorem eL_law_699 : decode code 699 = .ok (.iconst 1, 1) := by decide +kernel
theorem eL_law_700 : decode code 700 = .ok (.iload 6, 2) := by decide +kernel
theorem eL_law_702 : decode code 702 = .ok (.iconst 3, 1) := by decide +kernel
theorem eL_law_703 : decode code 703 = .ok (.iload 24, 2) := by decide +kernel
theorem eL_law_705 : decode code 705 = .ok (.imul, 1) := by decide +kernel
theorem eL_law_706 : decode code 706 = .ok (.ishr, 1) := by decide +kernel
theorem eL_law_707 : decode code 707 = .ok (.bipush 60, 2) := by decide +kernel
theorem eL_law_709 : decode code 709 = .ok (.invokestatic 52, 3) := by decide +kernel
theorem eL_law_712 : decode code 712 = .ok (.iadd, 1) := by decide +kernel
theorem eL_law_713 : decode code 713 = .ok (.istore 25, 2) := by decide +kernel
theorem eL_law_715 : decode code 715 = .ok (.aload_n 1, 1) := by decide +kernel
theorem eL_law_716 : decode code 716 = .ok (.iconst 0, 1) := by decide +kernel
theorem eL_law_717 : decode code 717 = .ok (.iload 25, 2) := by decide +kernel
theorem eL_law_719 : decode code 719 = .ok (.invokevirtual 56, 3) := by decide +kernel
theorem eL_law_722 : decode code 722 = .ok (.iconst 1, 1) := by decide +kernel
theorem eL_law_723 : decode code 723 = .ok (.if_icmp .ge 5, 3) := by decide +kernel
theorem eL_law_726 : decode code 726 = .ok (.iconst 0, 1) := by decide +kernel
theorem eL_law_728 : decode code 728 = .ok (.aload_n 1, 1) := by decide +kernel
theorem eL_law_729 : decode code 729 = .ok (.iload 7, 2) := by decide +kernel
theorem eL_law_731 : decode code 731 = .ok (.iload 12, 2) := by decide +kernel
theorem eL_law_733 : decode code 733 = .ok (.invokevirtual 98, 3) := by decide +kernel
theorem eL_law_736 : decode code 736 = .ok (.istore 26, 2) := by decide +kernel
theorem eL_law_738 : decode code 738 = .ok (.iload 26, 2) := by decide +kernel
theorem eL_law_740 : decode code 740 = .ok (.iload 23, 2) := by decide +kernel
theorem eL_law_742 : decode code 742 = .ok (.if_icmp .lt 17, 3) := by decide +kernel
theorem eL_law_745 : decode code 745 = .ok (.iload 25, 2) := by decide +kernel
theorem eL_law_747 : decode code 747 = .ok (.iload 16, 2) := by decide +kernel
theorem eL_law_749 : decode code 749 = .ok (.if_icmp .ge 12, 3) := by decide +kernel
theorem eL_law_752 : decode code 752 = .ok (.iload 26, 2) := by decide +kernel
theorem eL_law_754 : decode code 754 = .ok (.iload 23, 2) := by decide +kernel
theorem eL_law_756 : decode code 756 = .ok (.if_icmp .ne 5, 3) := by decide +kernel
theorem eL_law_759 : decode code 759 = .ok (.iconst 0, 1) := by decide +kernel
theorem eL_law_761 : decode code 761 = .ok (.iinc 24 1, 3) := by decide +kernel
theorem eL_law_764 : decode code 764 = .ok (.goto (-72), 3) := by decide +kernel
theorem eL_law_767 : decode code 767 = .ok (.iload 6, 2) := by decide +kernel
theorem eL_law_769 : decode code 769 = .ok (.bipush 14, 2) := by decide +kernel
theorem eL_law_771 : decode code 771 = .ok (.ishr, 1) := by decide +kernel
theorem eL_law_772 : decode code 772 = .ok (.iload_n 3, 1) := by decide +kernel
theorem eL_law_773 : decode code 773 = .ok (.invokestatic 52, 3) := by decide +kernel
theorem eL_law_776 : decode code 776 = .ok (.istore 24, 2) := by decide +kernel
theorem eL_law_778 : decode code 778 = .ok (.aload_n 1, 1) := by decide +kernel
theorem eL_law_779 : decode code 779 = .ok (.invokevirtual 117, 3) := by decide +kernel
theorem eL_law_782 : decode code 782 = .ok (.iload_n 3, 1) := by decide +kernel
theorem eL_law_783 : decode code 783 = .ok (.if_icmp .ne 36, 3) := by decide +kernel
theorem eL_law_786 : decode code 786 = .ok (.iload 17, 2) := by decide +kernel
theorem eL_law_788 : decode code 788 = .ok (.ifCond .lt 31, 3) := by decide +kernel
theorem eL_law_791 : decode code 791 = .ok (.iload 17, 2) := by decide +kernel
theorem eL_law_793 : decode code 793 = .ok (.iconst 3, 1) := by decide +kernel
theorem eL_law_794 : decode code 794 = .ok (.if_icmp .gt 25, 3) := by decide +kernel
theorem eL_law_797 : decode code 797 = .ok (.aload_n 1, 1) := by decide +kernel
theorem eL_law_798 : decode code 798 = .ok (.iload 24, 2) := by decide +kernel
theorem eL_law_800 : decode code 800 = .ok (.iconst 3, 1) := by decide +kernel
theorem eL_law_801 : decode code 801 = .ok (.iload 17, 2) := by decide +kernel
theorem eL_law_803 : decode code 803 = .ok (.invokevirtual 62, 3) := by decide +kernel
theorem eL_law_806 : decode code 806 = .ok (.aload_n 2, 1) := by decide +kernel
theorem eL_law_807 : decode code 807 = .ok (.bipush 9, 2) := by decide +kernel
theorem eL_law_809 : decode code 809 = .ok (.bipush 6, 2) := by decide +kernel
theorem eL_law_811 : decode code 811 = .ok (.iload 24, 2) := by decide +kernel
theorem eL_law_813 : decode code 813 = .ok (.imul, 1) := by decide +kernel
theorem eL_law_814 : decode code 814 = .ok (.iadd, 1) := by decide +kernel
theorem eL_law_815 : decode code 815 = .ok (.iaload, 1) := by decide +kernel
theorem eL_law_816 : decode code 816 = .ok (.if_icmp .eq 5, 3) := by decide +kernel
theorem eL_law_819 : decode code 819 = .ok (.iconst 0, 1) := by decide +kernel
theorem eL_law_821 : decode code 821 = .ok (.aload_n 1, 1) := by decide +kernel
theorem eL_law_822 : decode code 822 = .ok (.iload 7, 2) := by decide +kernel
theorem eL_law_824 : decode code 824 = .ok (.iload 12, 2) := by decide +kernel
theorem eL_law_826 : decode code 826 = .ok (.invokevirtual 98, 3) := by decide +kernel
theorem eL_law_829 : decode code 829 = .ok (.istore 23, 2) := by decide +kernel
theorem eL_law_831 : decode code 831 = .ok (.iconst 0, 1) := by decide +kernel
theorem eL_law_832 : decode code 832 = .ok (.istore 25, 2) := by decide +kernel
theorem eL_law_834 : decode code 834 = .ok (.iload 25, 2) := by decide +kernel
theorem eL_law_836 : decode code 836 = .ok (.iconst 4, 1) := by decide +kernel
theorem eL_law_837 : decode code 837 = .ok (.if_icmp .ge 56, 3) := by decide +kernel
theorem eL_law_840 : decode code 840 = .ok (.aload_n 1, 1) := by decide +kernel
theorem eL_law_841 : decode code 841 = .ok (.iload 24, 2) := by decide +kernel
theorem eL_law_843 : decode code 843 = .ok (.iconst 3, 1) := by decide +kernel
theorem eL_law_844 : decode code 844 = .ok (.iload 25, 2) := by decide +kernel
theorem eL_law_846 : decode code 846 = .ok (.invokevirtual 62, 3) := by decide +kernel
theorem eL_law_849 : decode code 849 = .ok (.ifCond .ge 5, 3) := by decide +kernel
theorem eL_law_852 : decode code 852 = .ok (.iconst 0, 1) := by decide +kernel
theorem eL_law_854 : decode code 854 = .ok (.aload_n 1, 1) := by decide +kernel
theorem eL_law_855 : decode code 855 = .ok (.iload 7, 2) := by decide +kernel
theorem eL_law_857 : decode code 857 = .ok (.iload 12, 2) := by decide +kernel
theorem eL_law_859 : decode code 859 = .ok (.invokevirtual 98, 3) := by decide +kernel
theorem eL_law_862 : decode code 862 = .ok (.istore 26, 2) := by decide +kernel
theorem eL_law_864 : decode code 864 = .ok (.iload 26, 2) := by decide +kernel
theorem eL_law_866 : decode code 866 = .ok (.iload 23, 2) := by decide +kernel
theorem eL_law_868 : decode code 868 = .ok (.if_icmp .lt 17, 3) := by decide +kernel
theorem eL_law_871 : decode code 871 = .ok (.iload 25, 2) := by decide +kernel
theorem eL_law_873 : decode code 873 = .ok (.iload 17, 2) := by decide +kernel
theorem eL_law_875 : decode code 875 = .ok (.if_icmp .ge 12, 3) := by decide +kernel
theorem eL_law_878 : decode code 878 = .ok (.iload 26, 2) := by decide +kernel
theorem eL_law_880 : decode code 880 = .ok (.iload 23, 2) := by decide +kernel
theorem eL_law_882 : decode code 882 = .ok (.if_icmp .ne 5, 3) := by decide +kernel
theorem eL_law_885 : decode code 885 = .ok (.iconst 0, 1) := by decide +kernel
theorem eL_law_887 : decode code 887 = .ok (.iinc 25 1, 3) := by decide +kernel
theorem eL_law_890 : decode code 890 = .ok (.goto (-56), 3) := by decide +kernel
theorem eL_law_893 : decode code 893 = .ok (.aload_n 1, 1) := by decide +kernel
theorem eL_law_894 : decode code 894 = .ok (.invokevirtual 117, 3) := by decide +kernel
theorem eL_law_897 : decode code 897 = .ok (.iload_n 3, 1) := by decide +kernel
theorem eL_law_898 : decode code 898 = .ok (.if_icmp .eq 5, 3) := by decide +kernel
theorem eL_law_901 : decode code 901 = .ok (.iconst 0, 1) := by decide +kernel
theorem eL_law_903 : decode code 903 = .ok (.iload 6, 2) := by decide +kernel
theorem eL_law_905 : decode code 905 = .ok (.bipush 29, 2) := by decide +kernel
theorem eL_law_907 : decode code 907 = .ok (.imul, 1) := by decide +kernel
theorem eL_law_908 : decode code 908 = .ok (.ldc 65, 2) := by decide +kernel
theorem eL_law_910 : decode code 910 = .ok (.invokestatic 52, 3) := by decide +kernel
theorem eL_law_913 : decode code 913 = .ok (.istore 25, 2) := by decide +kernel
theorem eL_law_915 : decode code 915 = .ok (.aload_n 1, 1) := by decide +kernel
theorem eL_law_916 : decode code 916 = .ok (.iload 7, 2) := by decide +kernel
theorem eL_law_918 : decode code 918 = .ok (.iload 25, 2) := by decide +kernel
theorem eL_law_920 : decode code 920 = .ok (.invokevirtual 120, 3) := by decide +kernel
theorem eL_law_923 : decode code 923 = .ok (.istore 26, 2) := by decide +kernel
theorem eL_law_925 : decode code 925 = .ok (.aload_n 1, 1) := by decide +kernel
theorem eL_law_926 : decode code 926 = .ok (.iload 25, 2) := by decide +kernel
theorem eL_law_928 : decode code 928 = .ok (.invokevirtual 123, 3) := by decide +kernel
theorem eL_law_931 : decode code 931 = .ok (.istore 27, 2) := by decide +kernel
theorem eL_law_933 : decode code 933 = .ok (.iconst 0, 1) := by decide +kernel
theorem eL_law_934 : decode code 934 = .ok (.istore 28, 2) := by decide +kernel
theorem eL_law_936 : decode code 936 = .ok (.iconst 0, 1) := by decide +kernel
theorem eL_law_937 : decode code 937 = .ok (.istore 29, 2) := by decide +kernel
theorem eL_law_939 : decode code 939 = .ok (.iconst 0, 1) := by decide +kernel
theorem eL_law_940 : decode code 940 = .ok (.istore 30, 2) := by decide +kernel
theorem eL_law_942 : decode code 942 = .ok (.iload 30, 2) := by decide +kernel
theorem eL_law_944 : decode code 944 = .ok (.bipush 16, 2) := by decide +kernel
theorem eL_law_946 : decode code 946 = .ok (.if_icmp .ge 89, 3) := by decide +kernel
theorem eL_law_949 : decode code 949 = .ok (.iload 25, 2) := by decide +kernel
theorem eL_law_951 : decode code 951 = .ok (.iload 30, 2) := by decide +kernel
theorem eL_law_953 : decode code 953 = .ok (.ishr, 1) := by decide +kernel
theorem eL_law_954 : decode code 954 = .ok (.iconst 1, 1) := by decide +kernel
theorem eL_law_955 : decode code 955 = .ok (.iand, 1) := by decide +kernel
theorem eL_law_956 : decode code 956 = .ok (.ifCond .ne 6, 3) := by decide +kernel
theorem eL_law_959 : decode code 959 = .ok (.goto 70, 3) := by decide +kernel
theorem eL_law_962 : decode code 962 = .ok (.aload_n 1, 1) := by decide +kernel
theorem eL_law_963 : decode code 963 = .ok (.aload_n 1, 1) := by decide +kernel
theorem eL_law_964 : decode code 964 = .ok (.iconst 0, 1) := by decide +kernel
theorem eL_law_965 : decode code 965 = .ok (.invokevirtual 74, 3) := by decide +kernel
theorem eL_law_968 : decode code 968 = .ok (.invokevirtual 77, 3) := by decide +kernel
theorem eL_law_971 : decode code 971 = .ok (.istore 31, 2) := by decide +kernel
theorem eL_law_973 : decode code 973 = .ok (.aload_n 1, 1) := by decide +kernel
theorem eL_law_974 : decode code 974 = .ok (.iload 7, 2) := by decide +kernel
theorem eL_law_976 : decode code 976 = .ok (.iload 30, 2) := by decide +kernel
theorem eL_law_978 : decode code 978 = .ok (.invokevirtual 126, 3) := by decide +kernel
theorem eL_law_981 : decode code 981 = .ok (.istore 32, 2) := by decide +kernel
theorem eL_law_983 : decode code 983 = .ok (.iload 32, 2) := by decide +kernel
theorem eL_law_985 : decode code 985 = .ok (.iload 31, 2) := by decide +kernel
theorem eL_law_987 : decode code 987 = .ok (.iconst (-1), 1) := by decide +kernel
theorem eL_law_988 : decode code 988 = .ok (.ixor, 1) := by decide +kernel
theorem eL_law_989 : decode code 989 = .ok (.iand, 1) := by decide +kernel
theorem eL_law_990 : decode code 990 = .ok (.ifCond .eq 5, 3) := by decide +kernel
theorem eL_law_993 : decode code 993 = .ok (.iconst 0, 1) := by decide +kernel
theorem eL_law_995 : decode code 995 = .ok (.iload 28, 2) := by decide +kernel
theorem eL_law_997 : decode code 997 = .ok (.iload 32, 2) := by decide +kernel
theorem eL_law_999 : decode code 999 = .ok (.invokestatic 30, 3) := by decide +kernel
theorem eL_law_1002 : decode code 1002 = .ok (.iadd, 1) := by decide +kernel
theorem eL_law_1003 : decode code 1003 = .ok (.istore 28, 2) := by decide +kernel
theorem eL_law_1005 : decode code 1005 = .ok (.iload 32, 2) := by decide +kernel
theorem eL_law_1007 : decode code 1007 = .ok (.ifCond .ne 12, 3) := by decide +kernel
theorem eL_law_1010 : decode code 1010 = .ok (.iload 29, 2) := by decide +kernel
theorem eL_law_1012 : decode code 1012 = .ok (.iconst 1, 1) := by decide +kernel
theorem eL_law_1013 : decode code 1013 = .ok (.iload 30, 2) := by decide +kernel
theorem eL_law_1015 : decode code 1015 = .ok (.ishl, 1) := by decide +kernel
theorem eL_law_1016 : decode code 1016 = .ok (.ior, 1) := by decide +kernel
theorem eL_law_1017 : decode code 1017 = .ok (.istore 29, 2) := by decide +kernel
theorem eL_law_1019 : decode code 1019 = .ok (.aload_n 1, 1) := by decide +kernel
theorem eL_law_1020 : decode code 1020 = .ok (.iconst 1, 1) := by decide +kernel
theorem eL_law_1021 : decode code 1021 = .ok (.invokevirtual 66, 3) := by decide +kernel
theorem eL_law_1024 : decode code 1024 = .ok (.ifCond .ge 5, 3) := by decide +kernel
theorem eL_law_1027 : decode code 1027 = .ok (.iconst 0, 1) := by decide +kernel
theorem eL_law_1029 : decode code 1029 = .ok (.iinc 30 1, 3) := by decide +kernel
theorem eL_law_1032 : decode code 1032 = .ok (.goto (-90), 3) := by decide +kernel
theorem eL_law_1035 : decode code 1035 = .ok (.iload 29, 2) := by decide +kernel
theorem eL_law_1037 : decode code 1037 = .ok (.iload 26, 2) := by decide +kernel
theorem eL_law_1039 : decode code 1039 = .ok (.if_icmp .ne 32, 3) := by decide +kernel
theorem eL_law_1042 : decode code 1042 = .ok (.aload_n 1, 1) := by decide +kernel
theorem eL_law_1043 : decode code 1043 = .ok (.invokevirtual 117, 3) := by decide +kernel
theorem eL_law_1046 : decode code 1046 = .ok (.iload_n 3, 1) := by decide +kernel
theorem eL_law_1047 : decode code 1047 = .ok (.if_icmp .ne 24, 3) := by decide +kernel
theorem eL_law_1050 : decode code 1050 = .ok (.aload_n 1, 1) := by decide +kernel
theorem eL_law_1051 : decode code 1051 = .ok (.iload 7, 2) := by decide +kernel
theorem eL_law_1053 : decode code 1053 = .ok (.iload 25, 2) := by decide +kernel
theorem eL_law_1055 : decode code 1055 = .ok (.invokevirtual 128, 3) := by decide +kernel
theorem eL_law_1058 : decode code 1058 = .ok (.iload 28, 2) := by decide +kernel
theorem eL_law_1060 : decode code 1060 = .ok (.if_icmp .ne 11, 3) := by decide +kernel
theorem eL_law_1063 : decode code 1063 = .ok (.aload_n 1, 1) := by decide +kernel
theorem eL_law_1064 : decode code 1064 = .ok (.invokevirtual 117, 3) := by decide +kernel
theorem eL_law_1067 : decode code 1067 = .ok (.iload_n 3, 1) := by decide +kernel
theorem eL_law_1068 : decode code 1068 = .ok (.if_icmp .eq 5, 3) := by decide +kernel
theorem eL_law_1071 : decode code 1071 = .ok (.iconst 0, 1) := by decide +kernel
theorem eL_law_1073 : decode code 1073 = .ok (.aload_n 1, 1) := by decide +kernel
theorem eL_law_1074 : decode code 1074 = .ok (.iload 27, 2) := by decide +kernel
theorem eL_law_1076 : decode code 1076 = .ok (.iload 25, 2) := by decide +kernel
theorem eL_law_1078 : decode code 1078 = .ok (.invokevirtual 128, 3) := by decide +kernel
theorem eL_law_1081 : decode code 1081 = .ok (.istore 30, 2) := by decide +kernel
theorem eL_law_1083 : decode code 1083 = .ok (.iload 30, 2) := by decide +kernel
theorem eL_law_1085 : decode code 1085 = .ok (.iload 28, 2) := by decide +kernel
theorem eL_law_1087 : decode code 1087 = .ok (.if_icmp .gt 33, 3) := by decide +kernel
theorem eL_law_1090 : decode code 1090 = .ok (.iload 30, 2) := by decide +kernel
theorem eL_law_1092 : decode code 1092 = .ok (.iload 28, 2) := by decide +kernel
theorem eL_law_1094 : decode code 1094 = .ok (.if_icmp .ne 10, 3) := by decide +kernel
theorem eL_law_1097 : decode code 1097 = .ok (.iload 27, 2) := by decide +kernel
theorem eL_law_1099 : decode code 1099 = .ok (.iload 7, 2) := by decide +kernel
theorem eL_law_1101 : decode code 1101 = .ok (.if_icmp .gt 19, 3) := by decide +kernel
theorem eL_law_1104 : decode code 1104 = .ok (.aload_n 1, 1) := by decide +kernel
theorem eL_law_1105 : decode code 1105 = .ok (.invokevirtual 117, 3) := by decide +kernel
theorem eL_law_1108 : decode code 1108 = .ok (.iload_n 3, 1) := by decide +kernel
theorem eL_law_1109 : decode code 1109 = .ok (.if_icmp .ne 11, 3) := by decide +kernel
theorem eL_law_1112 : decode code 1112 = .ok (.aload_n 1, 1) := by decide +kernel
theorem eL_law_1113 : decode code 1113 = .ok (.aload_n 2, 1) := by decide +kernel
theorem eL_law_1114 : decode code 1114 = .ok (.invokestatic 131, 3) := by decide +kernel
theorem eL_law_1117 : decode code 1117 = .ok (.ifCond .ne 5, 3) := by decide +kernel
theorem eL_law_1120 : decode code 1120 = .ok (.iconst 0, 1) := by decide +kernel
theorem eL_law_1122 : decode code 1122 = .ok (.iinc 5 1, 3) := by decide +kernel
theorem eL_law_1125 : decode code 1125 = .ok (.goto (-1081), 3) := by decide +kernel
theorem eL_law_1128 : decode code 1128 = .ok (.iconst 1, 1) := by decide +kernel
theorem eL_law_1129 : decode code 1129 = .ok (.ireturn, 1) := by decide +kernel
def dL_law_427 (LL : Nat) (xs : Nat → Int32) (f : Nat) (k44 : Int32 → Int32 → Int32 → Mem → Option (Int32 × Mem)) (k312 : Int32 → Int32 → Int32 → Int32 → Int32 → Int32 → Int32 → Int32 → Int32 → Int32 → Int32 → Int32 → Int32 → Int32 → Int32 → Int32 → Int32 → Int32 → Int32 → Mem → Option (Int32 × Mem)) (x3 : Int32) (x4 : Int32) (x5 : Int32) (x6 : Int32) (x7 : Int32) (x8 : Int32) (x9 : Int32) (x12 : Int32) (x13 : Int32) (x14 : Int32) (x15 : Int32) (x16 : Int32) (x17 : Int32) (x18 : Int32) (x19 : Int32) (x20 : Int32) (x21 : Int32) (x22 : Int32) (x23 : Int32) (mem : Mem) : Option (Int32 × Mem) := bd (dW_pass f (1 : Int32) mem) (fun r1 m1 => if r1 = ((x4 + x23) + (1 : Int32)) then (k312 x3 x4 x5 x6 x7 x8 x9 x12 x13 x14 x15 x16 x17 x18 x19 x20 x21 x22 (x23 + (1 : Int32)) m1) else (some ((0 : Int32), m1)))
def dL_law_408 (LL : Nat) (xs : Nat → Int32) (f : Nat) (k44 : Int32 → Int32 → Int32 → Mem → Option (Int32 × Mem)) (k312 : Int32 → Int32 → Int32 → Int32 → Int32 → Int32 → Int32 → Int32 → Int32 → Int32 → Int32 → Int32 → Int32 → Int32 → Int32 → Int32 → Int32 → Int32 → Int32 → Mem → Option (Int32 × Mem)) (x3 : Int32) (x4 : Int32) (x5 : Int32) (x6 : Int32) (x7 : Int32) (x8 : Int32) (x9 : Int32) (x12 : Int32) (x13 : Int32) (x14 : Int32) (x15 : Int32) (x16 : Int32) (x17 : Int32) (x18 : Int32) (x19 : Int32) (x20 : Int32) (x21 : Int32) (x22 : Int32) (x23 : Int32) (mem : Mem) : Option (Int32 × Mem) := if x15 < 0 then (dL_law_427 LL xs f k44 k312 x3 x4 x5 x6 x7 x8 x9 x12 x13 x14 x15 x16 x17 x18 x19 x20 x21 x22 x23 mem) else (bd (dL_isUnheard f x7 x15 mem) (fun r1 m1 => if r1 = 0 then (dL_law_427 LL xs f k44 k312 x3 x4 x5 x6 x7 x8 x9 x12 x13 x14 x15 x16 x17 x18 x19 x20 x21 x22 x23 m1) else (dL_law_427 LL xs f k44 k312 x3 x4 x5 x6 x7 x8 x9 x12 x13 x14 x15 x16 x17 x18 x19 (x20 + (1 : Int32)) x21 x22 x23 m1)))
def dL_law_381 (LL : Nat) (xs : Nat → Int32) (f : Nat) (k44 : Int32 → Int32 → Int32 → Mem → Option (Int32 × Mem)) (k312 : Int32 → Int32 → Int32 → Int32 → Int32 → Int32 → Int32 → Int32 → Int32 → Int32 → Int32 → Int32 → Int32 → Int32 → Int32 → Int32 → Int32 → Int32 → Int32 → Mem → Option (Int32 × Mem)) (x3 : Int32) (x4 : Int32) (x5 : Int32) (x6 : Int32) (x7 : Int32) (x8 : Int32) (x9 : Int32) (x12 : Int32) (x13 : Int32) (x14 : Int32) (x15 : Int32) (x16 : Int32) (x17 : Int32) (x18 : Int32) (x19 : Int32) (x20 : Int32) (x21 : Int32) (x22 : Int32) (x23 : Int32) (mem : Mem) : Option (Int32 × Mem) := if x14 < 0 then (dL_law_408 LL xs f k44 k312 x3 x4 x5 x6 x7 x8 x9 x12 x13 x14 x15 x16 x17 x18 x19 x20 x21 x22 x23 mem) else (bd (dL_isUnheard f x7 ((1023 : Int32) &&& (((1 : Int32) <<< (x14 &&& 31)) ^^^ (-1 : Int32))) mem) (fun r1 m1 => if r1 = 0 then (dL_law_408 LL xs f k44 k312 x3 x4 x5 x6 x7 x8 x9 x12 x13 x14 x15 x16 x17 x18 x19 x20 x21 x22 x23 m1) else (dL_law_408 LL xs f k44 k312 x3 x4 x5 x6 x7 x8 x9 x12 x13 x14 x15 x16 x17 x18 (x19 + (1 : Int32)) x20 x21 x22 x23 m1)))
def dL_law_366 (LL : Nat) (xs : Nat → Int32) (f : Nat) (k44 : Int32 → Int32 → Int32 → Mem → Option (Int32 × Mem)) (k312 : Int32 → Int32 → Int32 → Int32 → Int32 → Int32 → Int32 → Int32 → Int32 → Int32 → Int32 → Int32 → Int32 → Int32 → Int32 → Int32 → Int32 → Int32 → Int32 → Mem → Option (Int32 × Mem)) (x3 : Int32) (x4 : Int32) (x5 : Int32) (x6 : Int32) (x7 : Int32) (x8 : Int32) (x9 : Int32) (x12 : Int32) (x13 : Int32) (x14 : Int32) (x15 : Int32) (x16 : Int32) (x17 : Int32) (x18 : Int32) (x19 : Int32) (x20 : Int32) (x21 : Int32) (x22 : Int32) (x23 : Int32) (x24 : Int32) (mem : Mem) : Option (Int32 × Mem) := if x23 < x12 then (if x24 = 0 then (dL_law_381 LL xs f k44 k312 x3 x4 x5 x6 x7 x8 x9 x12 x13 x14 x15 x16 x17 x18 x19 x20 x21 x22 x23 mem) else (dL_law_381 LL xs f k44 k312 x3 x4 x5 x6 x7 x8 x9 x12 x13 x14 x15 x16 x17 (x18 + (1 : Int32)) x19 x20 x21 x22 x23 mem)) else (dL_law_427 LL xs f k44 k312 x3 x4 x5 x6 x7 x8 x9 x12 x13 x14 x15 x16 x17 x18 x19 x20 x21 x22 x23 mem)
def dL_law_343 (LL : Nat) (xs : Nat → Int32) (f : Nat) (k44 : Int32 → Int32 → Int32 → Mem → Option (Int32 × Mem)) (k312 : Int32 → Int32 → Int32 → Int32 → Int32 → Int32 → Int32 → Int32 → Int32 → Int32 → Int32 → Int32 → Int32 → Int32 → Int32 → Int32 → Int32 → Int32 → Int32 → Mem → Option (Int32 × Mem)) (x3 : Int32) (x4 : Int32) (x5 : Int32) (x6 : Int32) (x7 : Int32) (x8 : Int32) (x9 : Int32) (x12 : Int32) (x13 : Int32) (x14 : Int32) (x15 : Int32) (x16 : Int32) (x17 : Int32) (x18 : Int32) (x19 : Int32) (x20 : Int32) (x22 : Int32) (x23 : Int32) (x24 : Int32) (s0 : Int32) (mem : Mem) : Option (Int32 × Mem) := if s0 = x8 then (if x22 < 0 then (dL_law_366 LL xs f k44 k312 x3 x4 x5 x6 x7 x8 x9 x12 x13 x14 x15 x16 x17 x18 x19 x20 s0 ((x23 + (1 : Int32)) - x8) x23 x24 mem) else (dL_law_366 LL xs f k44 k312 x3 x4 x5 x6 x7 x8 x9 x12 x13 x14 x15 x16 x17 x18 x19 x20 s0 x22 x23 x24 mem)) else (dL_law_366 LL xs f k44 k312 x3 x4 x5 x6 x7 x8 x9 x12 x13 x14 x15 x16 x17 x18 x19 x20 s0 x22 x23 x24 mem)
def dL_law_1019 (LL : Nat) (xs : Nat → Int32) (f : Nat) (k44 : Int32 → Int32 → Int32 → Mem → Option (Int32 × Mem)) (k942 : Int32 → Int32 → Int32 → Int32 → Int32 → Int32 → Int32 → Int32 → Int32 → Int32 → Mem → Option (Int32 × Mem)) (x3 : Int32) (x4 : Int32) (x5 : Int32) (x7 : Int32) (x25 : Int32) (x26 : Int32) (x27 : Int32) (x28 : Int32) (x29 : Int32) (x30 : Int32) (mem : Mem) : Option (Int32 × Mem) := bd (dW_pass f (1 : Int32) mem) (fun r1 m1 => if r1 < 0 then (some ((0 : Int32), m1)) else (k942 x3 x4 x5 x7 x25 x26 x27 x28 x29 (x30 + (1 : Int32)) m1))
def dL_law_1104 (LL : Nat) (xs : Nat → Int32) (f : Nat) (k44 : Int32 → Int32 → Int32 → Mem → Option (Int32 × Mem)) (x3 : Int32) (x4 : Int32) (x5 : Int32) (mem : Mem) : Option (Int32 × Mem) := bd (dW_undo f  mem) (fun r1 m1 => if r1 = x3 then (bd (dL_isSo f  m1) (fun r2 m2 => if r2 = 0 then (some ((0 : Int32), m2)) else (k44 x3 x4 (x5 + (1 : Int32)) m2))) else (some ((0 : Int32), m1)))
def dL_law_942 (LL : Nat) (xs : Nat → Int32) (f : Nat) (k44 : Int32 → Int32 → Int32 → Mem → Option (Int32 × Mem)) : Nat → Int32 → Int32 → Int32 → Int32 → Int32 → Int32 → Int32 → Int32 → Int32 → Int32 → Mem → Option (Int32 × Mem)
  | 0, _, _, _, _, _, _, _, _, _, _, _ => none
  | n + 1, x3, x4, x5, x7, x25, x26, x27, x28, x29, x30, mem => if x30 < (16 : Int32) then (if ((x25 >>> (x30 &&& 31)) &&& (1 : Int32)) = 0 then (dL_law_942 LL xs f k44 n x3 x4 x5 x7 x25 x26 x27 x28 x29 (x30 + (1 : Int32)) mem) else (bd (dW_now f (0 : Int32) mem) (fun r1 m1 => bd (dW_duty f r1 m1) (fun r2 m2 => bd (dW_say f x7 x30 m2) (fun r3 m3 => if (r3 &&& (r2 ^^^ (-1 : Int32))) = 0 then (bd (dL_ones f r3 m3) (fun r4 m4 => if r3 = 0 then (dL_law_1019 LL xs f k44 (fun x3_ x4_ x5_ x7_ x25_ x26_ x27_ x28_ x29_ x30_ mem_ => dL_law_942 LL xs f k44 n x3_ x4_ x5_ x7_ x25_ x26_ x27_ x28_ x29_ x30_ mem_) x3 x4 x5 x7 x25 x26 x27 (x28 + r4) (x29 ||| ((1 : Int32) <<< (x30 &&& 31))) x30 m4) else (dL_law_1019 LL xs f k44 (fun x3_ x4_ x5_ x7_ x25_ x26_ x27_ x28_ x29_ x30_ mem_ => dL_law_942 LL xs f k44 n x3_ x4_ x5_ x7_ x25_ x26_ x27_ x28_ x29_ x30_ mem_) x3 x4 x5 x7 x25 x26 x27 (x28 + r4) x29 x30 m4))) else (some ((0 : Int32), m3))))))) else (if x29 = x26 then (bd (dW_undo f  mem) (fun r5 m5 => if r5 = x3 then (bd (dW_speak f x7 x25 m5) (fun r6 m6 => if r6 = x28 then (bd (dW_undo f  m6) (fun r7 m7 => if r7 = x3 then (bd (dW_speak f x27 x25 m7) (fun r8 m8 => if x28 < r8 then (some ((0 : Int32), m8)) else (if r8 = x28 then (if x7 < x27 then (some ((0 : Int32), m8)) else (dL_law_1104 LL xs f k44 x3 x4 x5 m8)) else (dL_law_1104 LL xs f k44 x3 x4 x5 m8)))) else (some ((0 : Int32), m7)))) else (some ((0 : Int32), m6)))) else (some ((0 : Int32), m5)))) else (some ((0 : Int32), mem)))
def dL_law_834 (LL : Nat) (xs : Nat → Int32) (f : Nat) (k44 : Int32 → Int32 → Int32 → Mem → Option (Int32 × Mem)) : Nat → Int32 → Int32 → Int32 → Int32 → Int32 → Int32 → Int32 → Int32 → Int32 → Int32 → Mem → Option (Int32 × Mem)
  | 0, _, _, _, _, _, _, _, _, _, _, _ => none
  | n + 1, x3, x4, x5, x6, x7, x12, x17, x23, x24, x25, mem => if x25 < (4 : Int32) then (bd (dW_set f x24 (3 : Int32) x25 mem) (fun r1 m1 => if r1 < 0 then (some ((0 : Int32), m1)) else (bd (dW_quiet f x7 x12 m1) (fun r2 m2 => if r2 < x23 then (some ((0 : Int32), m2)) else (if x25 < x17 then (if r2 = x23 then (some ((0 : Int32), m2)) else (dL_law_834 LL xs f k44 n x3 x4 x5 x6 x7 x12 x17 x23 x24 (x25 + (1 : Int32)) m2)) else (dL_law_834 LL xs f k44 n x3 x4 x5 x6 x7 x12 x17 x23 x24 (x25 + (1 : Int32)) m2)))))) else (bd (dW_undo f  mem) (fun r3 m3 => if r3 = x3 then (bd (dL_mod f (x6 * (29 : Int32)) (65536 : Int32) m3) (fun r4 m4 => bd (dW_lost f x7 r4 m4) (fun r5 m5 => bd (dW_best f r4 m5) (fun r6 m6 => dL_law_942 LL xs f k44 f x3 x4 x5 x7 r4 r5 r6 (0 : Int32) (0 : Int32) (0 : Int32) m6)))) else (some ((0 : Int32), m3))))
def dL_law_692 (LL : Nat) (xs : Nat → Int32) (f : Nat) (k44 : Int32 → Int32 → Int32 → Mem → Option (Int32 × Mem)) : Nat → Int32 → Int32 → Int32 → Int32 → Int32 → Int32 → Int32 → Int32 → Int32 → Int32 → Mem → Option (Int32 × Mem)
  | 0, _, _, _, _, _, _, _, _, _, _, _ => none
  | n + 1, x3, x4, x5, x6, x7, x12, x16, x17, x23, x24, mem => if x24 < (6 : Int32) then (bd (dL_mod f (x6 >>> (((3 : Int32) * x24) &&& 31)) (60 : Int32) mem) (fun r1 m1 => bd (dW_rota f (0 : Int32) ((1 : Int32) + r1) m1) (fun r2 m2 => if r2 < (1 : Int32) then (some ((0 : Int32), m2)) else (bd (dW_quiet f x7 x12 m2) (fun r3 m3 => if r3 < x23 then (some ((0 : Int32), m3)) else (if ((1 : Int32) + r1) < x16 then (if r3 = x23 then (some ((0 : Int32), m3)) else (dL_law_692 LL xs f k44 n x3 x4 x5 x6 x7 x12 x16 x17 x23 (x24 + (1 : Int32)) m3)) else (dL_law_692 LL xs f k44 n x3 x4 x5 x6 x7 x12 x16 x17 x23 (x24 + (1 : Int32)) m3))))))) else (bd (dL_mod f (x6 >>> ((14 : Int32) &&& 31)) x3 mem) (fun r4 m4 => bd (dW_undo f  m4) (fun r5 m5 => if r5 = x3 then (if x17 < 0 then (some ((0 : Int32), m5)) else (if (3 : Int32) < x17 then (some ((0 : Int32), m5)) else (bd (dW_set f r4 (3 : Int32) x17 m5) (fun r6 m6 => ck ((9 : Int32) + ((6 : Int32) * r4)) 66 (if r6 = (gI m6 13 0 ((9 : Int32) + ((6 : Int32) * r4)).toNatClampNeg) then (bd (dW_quiet f x7 x12 m6) (fun r7 m7 => dL_law_834 LL xs f k44 f x3 x4 x5 x6 x7 x12 x17 r7 r4 (0 : Int32) m7)) else (some ((0 : Int32), m6))))))) else (some ((0 : Int32), m5)))))
def dL_law_651 (LL : Nat) (xs : Nat → Int32) (f : Nat) (k44 : Int32 → Int32 → Int32 → Mem → Option (Int32 × Mem)) (x3 : Int32) (x4 : Int32) (x5 : Int32) (x6 : Int32) (x7 : Int32) (x12 : Int32) (x16 : Int32) (x17 : Int32) (mem : Mem) : Option (Int32 × Mem) := if x16 < (1 : Int32) then (some ((0 : Int32), mem)) else (if (60 : Int32) < x16 then (some ((0 : Int32), mem)) else (bd (dW_rota f (0 : Int32) x16 mem) (fun r1 m1 => if r1 = (gI m1 13 0 1) then (bd (dW_quiet f x7 x12 m1) (fun r2 m2 => dL_law_692 LL xs f k44 f x3 x4 x5 x6 x7 x12 x16 x17 r2 (0 : Int32) m2)) else (some ((0 : Int32), m1)))))
def dL_law_614 (LL : Nat) (xs : Nat → Int32) (f : Nat) (k44 : Int32 → Int32 → Int32 → Mem → Option (Int32 × Mem)) (k556 : Int32 → Int32 → Int32 → Int32 → Int32 → Int32 → Int32 → Int32 → Int32 → Int32 → Mem → Option (Int32 × Mem)) (k586 : Int32 → Int32 → Int32 → Int32 → Int32 → Int32 → Int32 → Int32 → Int32 → Int32 → Int32 → Int32 → Mem → Option (Int32 × Mem)) (x3 : Int32) (x4 : Int32) (x5 : Int32) (x6 : Int32) (x7 : Int32) (x12 : Int32) (x15 : Int32) (x16 : Int32) (x17 : Int32) (x23 : Int32) (x24 : Int32) (x25 : Int32) (mem : Mem) : Option (Int32 × Mem) := bd (dW_pass f (1 : Int32) mem) (fun r1 m1 => if r1 < 0 then (some ((0 : Int32), m1)) else (k586 x3 x4 x5 x6 x7 x12 x15 x16 x17 x23 x24 (x25 + (1 : Int32)) m1))
def dL_law_586 (LL : Nat) (xs : Nat → Int32) (f : Nat) (k44 : Int32 → Int32 → Int32 → Mem → Option (Int32 × Mem)) (k556 : Int32 → Int32 → Int32 → Int32 → Int32 → Int32 → Int32 → Int32 → Int32 → Int32 → Mem → Option (Int32 × Mem)) : Nat → Int32 → Int32 → Int32 → Int32 → Int32 → Int32 → Int32 → Int32 → Int32 → Int32 → Int32 → Int32 → Mem → Option (Int32 × Mem)
  | 0, _, _, _, _, _, _, _, _, _, _, _, _, _ => none
  | n + 1, x3, x4, x5, x6, x7, x12, x15, x16, x17, x23, x24, x25, mem => if x25 < x12 then (bd (dL_isUnheard f x7 (x15 &&& (((1 : Int32) <<< (x23 &&& 31)) ^^^ (-1 : Int32))) mem) (fun r1 m1 => if r1 = 0 then (dL_law_614 LL xs f k44 k556 (fun x3_ x4_ x5_ x6_ x7_ x12_ x15_ x16_ x17_ x23_ x24_ x25_ mem_ => dL_law_586 LL xs f k44 k556 n x3_ x4_ x5_ x6_ x7_ x12_ x15_ x16_ x17_ x23_ x24_ x25_ mem_) x3 x4 x5 x6 x7 x12 x15 x16 x17 x23 x24 x25 m1) else (dL_law_614 LL xs f k44 k556 (fun x3_ x4_ x5_ x6_ x7_ x12_ x15_ x16_ x17_ x23_ x24_ x25_ mem_ => dL_law_586 LL xs f k44 k556 n x3_ x4_ x5_ x6_ x7_ x12_ x15_ x16_ x17_ x23_ x24_ x25_ mem_) x3 x4 x5 x6 x7 x12 x15 x16 x17 x23 (x24 + (1 : Int32)) x25 m1))) else (if x24 = 0 then (some ((0 : Int32), mem)) else (bd (dW_undo f  mem) (fun r2 m2 => if r2 = x3 then (k556 x3 x4 x5 x6 x7 x12 x15 x16 x17 (x23 + (1 : Int32)) m2) else (some ((0 : Int32), m2)))))
def dL_law_556 (LL : Nat) (xs : Nat → Int32) (f : Nat) (k44 : Int32 → Int32 → Int32 → Mem → Option (Int32 × Mem)) : Nat → Int32 → Int32 → Int32 → Int32 → Int32 → Int32 → Int32 → Int32 → Int32 → Int32 → Mem → Option (Int32 × Mem)
  | 0, _, _, _, _, _, _, _, _, _, _, _ => none
  | n + 1, x3, x4, x5, x6, x7, x12, x15, x16, x17, x23, mem => if x23 < x3 then (if x15 < 0 then (dL_law_651 LL xs f k44 x3 x4 x5 x6 x7 x12 x16 x17 mem) else (if ((x15 >>> (x23 &&& 31)) &&& (1 : Int32)) = 0 then (dL_law_556 LL xs f k44 n x3 x4 x5 x6 x7 x12 x15 x16 x17 (x23 + (1 : Int32)) mem) else (dL_law_586 LL xs f k44 (fun x3_ x4_ x5_ x6_ x7_ x12_ x15_ x16_ x17_ x23_ mem_ => dL_law_556 LL xs f k44 n x3_ x4_ x5_ x6_ x7_ x12_ x15_ x16_ x17_ x23_ mem_) f x3 x4 x5 x6 x7 x12 x15 x16 x17 x23 (0 : Int32) (0 : Int32) mem))) else (dL_law_651 LL xs f k44 x3 x4 x5 x6 x7 x12 x16 x17 mem)
def dL_law_533 (LL : Nat) (xs : Nat → Int32) (f : Nat) (k44 : Int32 → Int32 → Int32 → Mem → Option (Int32 × Mem)) (x3 : Int32) (x4 : Int32) (x5 : Int32) (x6 : Int32) (x7 : Int32) (x12 : Int32) (x15 : Int32) (x16 : Int32) (x17 : Int32) (mem : Mem) : Option (Int32 × Mem) := bd (dW_undo f  mem) (fun r1 m1 => if r1 = x3 then (bd (dW_now f (0 : Int32) m1) (fun r2 m2 => if r2 = x4 then (dL_law_556 LL xs f k44 f x3 x4 x5 x6 x7 x12 x15 x16 x17 (0 : Int32) m2) else (some ((0 : Int32), m2)))) else (some ((0 : Int32), m1)))
def dL_law_526 (LL : Nat) (xs : Nat → Int32) (f : Nat) (k44 : Int32 → Int32 → Int32 → Mem → Option (Int32 × Mem)) (x3 : Int32) (x4 : Int32) (x5 : Int32) (x6 : Int32) (x7 : Int32) (x12 : Int32) (x15 : Int32) (x16 : Int32) (x17 : Int32) (x22 : Int32) (mem : Mem) : Option (Int32 × Mem) := if x22 = (-1000000004 : Int32) then (dL_law_533 LL xs f k44 x3 x4 x5 x6 x7 x12 x15 x16 x17 mem) else (some ((0 : Int32), mem))
def dL_law_496 (LL : Nat) (xs : Nat → Int32) (f : Nat) (k44 : Int32 → Int32 → Int32 → Mem → Option (Int32 × Mem)) (x3 : Int32) (x4 : Int32) (x5 : Int32) (x6 : Int32) (x7 : Int32) (x8 : Int32) (x9 : Int32) (x12 : Int32) (x15 : Int32) (x16 : Int32) (x17 : Int32) (x22 : Int32) (s0 : Int32) (s1 : Int32) (mem : Mem) : Option (Int32 × Mem) := if s0 = s1 then (if x9 = (-1000000004 : Int32) then (dL_law_526 LL xs f k44 x3 x4 x5 x6 x7 x12 x15 x16 x17 x22 mem) else (if (60 : Int32) < (x9 + x8) then (dL_law_526 LL xs f k44 x3 x4 x5 x6 x7 x12 x15 x16 x17 x22 mem) else (if x22 = x9 then (dL_law_533 LL xs f k44 x3 x4 x5 x6 x7 x12 x15 x16 x17 mem) else (some ((0 : Int32), mem))))) else (some ((0 : Int32), mem))
def dL_law_486 (LL : Nat) (xs : Nat → Int32) (f : Nat) (k44 : Int32 → Int32 → Int32 → Mem → Option (Int32 × Mem)) (x3 : Int32) (x4 : Int32) (x5 : Int32) (x6 : Int32) (x7 : Int32) (x8 : Int32) (x9 : Int32) (x12 : Int32) (x15 : Int32) (x16 : Int32) (x17 : Int32) (x18 : Int32) (x22 : Int32) (s0 : Int32) (mem : Mem) : Option (Int32 × Mem) := if 0 < x18 then (dL_law_496 LL xs f k44 x3 x4 x5 x6 x7 x8 x9 x12 x15 x16 x17 x22 s0 (1 : Int32) mem) else (dL_law_496 LL xs f k44 x3 x4 x5 x6 x7 x8 x9 x12 x15 x16 x17 x22 s0 (0 : Int32) mem)
def dL_law_469 (LL : Nat) (xs : Nat → Int32) (f : Nat) (k44 : Int32 → Int32 → Int32 → Mem → Option (Int32 × Mem)) (x3 : Int32) (x4 : Int32) (x5 : Int32) (x6 : Int32) (x7 : Int32) (x8 : Int32) (x9 : Int32) (x12 : Int32) (x15 : Int32) (x16 : Int32) (x17 : Int32) (x18 : Int32) (x20 : Int32) (x22 : Int32) (mem : Mem) : Option (Int32 × Mem) := if x20 = 0 then (if x15 = (-1000000004 : Int32) then (dL_law_486 LL xs f k44 x3 x4 x5 x6 x7 x8 x9 x12 x15 x16 x17 x18 x22 (1 : Int32) mem) else (dL_law_486 LL xs f k44 x3 x4 x5 x6 x7 x8 x9 x12 x15 x16 x17 x18 x22 (0 : Int32) mem)) else (some ((0 : Int32), mem))
def dL_law_312 (LL : Nat) (xs : Nat → Int32) (f : Nat) (k44 : Int32 → Int32 → Int32 → Mem → Option (Int32 × Mem)) : Nat → Int32 → Int32 → Int32 → Int32 → Int32 → Int32 → Int32 → Int32 → Int32 → Int32 → Int32 → Int32 → Int32 → Int32 → Int32 → Int32 → Int32 → Int32 → Int32 → Mem → Option (Int32 × Mem)
  | 0, _, _, _, _, _, _, _, _, _, _, _, _, _, _, _, _, _, _, _, _ => none
  | n + 1, x3, x4, x5, x6, x7, x8, x9, x12, x13, x14, x15, x16, x17, x18, x19, x20, x21, x22, x23, mem => if x23 < (60 : Int32) then (bd (dL_isUnheard f x7 (1023 : Int32) mem) (fun r1 m1 => if r1 = 0 then (dL_law_343 LL xs f k44 (fun x3_ x4_ x5_ x6_ x7_ x8_ x9_ x12_ x13_ x14_ x15_ x16_ x17_ x18_ x19_ x20_ x21_ x22_ x23_ mem_ => dL_law_312 LL xs f k44 n x3_ x4_ x5_ x6_ x7_ x8_ x9_ x12_ x13_ x14_ x15_ x16_ x17_ x18_ x19_ x20_ x21_ x22_ x23_ mem_) x3 x4 x5 x6 x7 x8 x9 x12 x13 x14 x15 x16 x17 x18 x19 x20 x22 x23 r1 (0 : Int32) m1) else (dL_law_343 LL xs f k44 (fun x3_ x4_ x5_ x6_ x7_ x8_ x9_ x12_ x13_ x14_ x15_ x16_ x17_ x18_ x19_ x20_ x21_ x22_ x23_ mem_ => dL_law_312 LL xs f k44 n x3_ x4_ x5_ x6_ x7_ x8_ x9_ x12_ x13_ x14_ x15_ x16_ x17_ x18_ x19_ x20_ x21_ x22_ x23_ mem_) x3 x4 x5 x6 x7 x8 x9 x12 x13 x14 x15 x16 x17 x18 x19 x20 x22 x23 r1 (x21 + (1 : Int32)) m1))) else (if x18 = x13 then (if x14 < 0 then (dL_law_469 LL xs f k44 x3 x4 x5 x6 x7 x8 x9 x12 x15 x16 x17 x18 x20 x22 mem) else (if x18 < x19 then (dL_law_469 LL xs f k44 x3 x4 x5 x6 x7 x8 x9 x12 x15 x16 x17 x18 x20 x22 mem) else (some ((0 : Int32), mem)))) else (some ((0 : Int32), mem)))
def dL_law_220 (LL : Nat) (xs : Nat → Int32) (f : Nat) (k44 : Int32 → Int32 → Int32 → Mem → Option (Int32 × Mem)) (x3 : Int32) (x4 : Int32) (x5 : Int32) (x6 : Int32) (x7 : Int32) (x8 : Int32) (x9 : Int32) (mem : Mem) : Option (Int32 × Mem) := bd (dL_mod f (x6 >>> ((9 : Int32) &&& 31)) (40 : Int32) mem) (fun r1 m1 => bd (dW_quiet f x7 ((1 : Int32) + r1) m1) (fun r2 m2 => bd (dW_worst f x7 ((1 : Int32) + r1) m2) (fun r3 m3 => bd (dW_cover f x7 ((1 : Int32) + r1) m3) (fun r4 m4 => bd (dW_shift f x7 ((1 : Int32) + r1) m4) (fun r5 m5 => bd (dL_mod f (x6 >>> ((14 : Int32) &&& 31)) x3 m5) (fun r6 m6 => bd (dW_side f r6 x7 ((1 : Int32) + r1) m6) (fun r7 m7 => dL_law_312 LL xs f k44 f x3 x4 x5 x6 x7 x8 x9 ((1 : Int32) + r1) r2 r3 r4 r5 r7 (0 : Int32) (0 : Int32) (0 : Int32) (0 : Int32) (-1000000004 : Int32) (0 : Int32) m7)))))))
def dL_law_156 (LL : Nat) (xs : Nat → Int32) (f : Nat) (k44 : Int32 → Int32 → Int32 → Mem → Option (Int32 × Mem)) (x3 : Int32) (x4 : Int32) (x5 : Int32) (x6 : Int32) (x7 : Int32) (x8 : Int32) (x9 : Int32) (x10 : Int32) (x11 : Int32) (mem : Mem) : Option (Int32 × Mem) := if x10 = (-1000000004 : Int32) then (if x9 = (-1000000004 : Int32) then (dL_law_220 LL xs f k44 x3 x4 x5 x6 x7 x8 x9 mem) else (some ((0 : Int32), mem))) else (if x10 < 0 then (some ((0 : Int32), mem)) else (if (9 : Int32) < x10 then (some ((0 : Int32), mem)) else (if x11 < 0 then (some ((0 : Int32), mem)) else (if x9 = (-1000000004 : Int32) then (dL_law_220 LL xs f k44 x3 x4 x5 x6 x7 x8 x9 mem) else (if x9 < x11 then (some ((0 : Int32), mem)) else (if x11 = x9 then (if x7 < x10 then (some ((0 : Int32), mem)) else (dL_law_220 LL xs f k44 x3 x4 x5 x6 x7 x8 x9 mem)) else (dL_law_220 LL xs f k44 x3 x4 x5 x6 x7 x8 x9 mem)))))))
def dL_law_134 (LL : Nat) (xs : Nat → Int32) (f : Nat) (k44 : Int32 → Int32 → Int32 → Mem → Option (Int32 × Mem)) (x3 : Int32) (x4 : Int32) (x5 : Int32) (x6 : Int32) (x7 : Int32) (x8 : Int32) (x9 : Int32) (x10 : Int32) (s0 : Int32) (mem : Mem) : Option (Int32 × Mem) := if x9 = (-1000000004 : Int32) then (dL_law_156 LL xs f k44 x3 x4 x5 x6 x7 x8 x9 x10 s0 mem) else (if x9 < 0 then (some ((0 : Int32), mem)) else (if (240 : Int32) < x9 then (some ((0 : Int32), mem)) else (dL_law_156 LL xs f k44 x3 x4 x5 x6 x7 x8 x9 x10 s0 mem)))
def dL_law_78 (LL : Nat) (xs : Nat → Int32) (f : Nat) (k44 : Int32 → Int32 → Int32 → Mem → Option (Int32 × Mem)) (x3 : Int32) (x4 : Int32) (x5 : Int32) (x6 : Int32) (s0 : Int32) (s1 : Int32) (mem : Mem) : Option (Int32 × Mem) := bd (dL_mod f s0 s1 mem) (fun r1 m1 => bd (dL_mod f (x6 >>> ((5 : Int32) &&& 31)) (12 : Int32) m1) (fun r2 m2 => bd (dW_safe f r1 ((1 : Int32) + r2) m2) (fun r3 m3 => bd (dW_where f ((1 : Int32) + r2) m3) (fun r4 m4 => if r4 = (-1000000004 : Int32) then (dL_law_134 LL xs f k44 x3 x4 x5 x6 r1 ((1 : Int32) + r2) r3 r4 (-1000000004 : Int32) m4) else (bd (dW_safe f r4 ((1 : Int32) + r2) m4) (fun r5 m5 => dL_law_134 LL xs f k44 x3 x4 x5 x6 r1 ((1 : Int32) + r2) r3 r4 r5 m5))))))
def dL_law_44 (LL : Nat) (xs : Nat → Int32) (f : Nat) : Nat → Int32 → Int32 → Int32 → Mem → Option (Int32 × Mem)
  | 0, _, _, _, _ => none
  | n + 1, x3, x4, x5, mem => if x5 < (4 : Int32) then (bd (dL_at LL xs f ((6 : Int32) + x5) mem) (fun r1 m1 => if ((r1 >>> ((4 : Int32) &&& 31)) &&& (1 : Int32)) = 0 then (dL_law_78 LL xs f (fun x3_ x4_ x5_ mem_ => dL_law_44 LL xs f n x3_ x4_ x5_ mem_) x3 x4 x5 r1 r1 (3 : Int32) m1) else (dL_law_78 LL xs f (fun x3_ x4_ x5_ mem_ => dL_law_44 LL xs f n x3_ x4_ x5_ mem_) x3 x4 x5 r1 r1 (10 : Int32) m1))) else (some ((1 : Int32), mem))
def dL_law_13 (LL : Nat) (xs : Nat → Int32) (f : Nat)  (mem : Mem) : Option (Int32 × Mem) := bd (dL_lay LL xs f  mem) (fun r1 m1 => if r1 = 0 then (some ((0 : Int32), m1)) else (bd (dW_image f  m1) (fun r2 m2 => if r2 = (1 : Int32) then (dL_law_44 LL xs f f (gI m2 13 0 5) (gI m2 13 0 0) (0 : Int32) m2) else (some ((0 : Int32), m2)))))
set_option maxHeartbeats 4000000 in
set_option maxRecDepth 100000 in
theorem cL_law_427 {p : Program} {l : Launch} {e : Env} {s : State} {m : MethodId} {b : Nat} {below : List Frame} {meth : Method} {c : Code} {k : KK} {f : Nat} {mem' : Mem} (X : CX p s m #[Value.ref b] meth c k code 33 "WallShiftsLaw") (hr : meth.sig.returnType = ret) (hk : kh k = s.heap.size) {k44 : Int32 → Int32 → Int32 → Mem → Option (Int32 × Mem)} (hk44 : ∀ (x3 : Int32) (x4 : Int32) (x5 : Int32) (mem : Mem), k44 x3 x4 x5 mem = some ((1 : Int32), mem') → V p l e room_1 s m #[Value.ref b] below meth c 600000 7302250 (lw_Z below #[Value.ref b] s) k 33 mem 44 [(0, aR 24 0), (1, aR 0 0), (2, aR 13 0), (3, aI x3), (4, aI x4), (5, aI x5)] []) {k312 : Int32 → Int32 → Int32 → Int32 → Int32 → Int32 → Int32 → Int32 → Int32 → Int32 → Int32 → Int32 → Int32 → Int32 → Int32 → Int32 → Int32 → Int32 → Int32 → Mem → Option (Int32 × Mem)} (hk312 : ∀ (x3 : Int32) (x4 : Int32) (x5 : Int32) (x6 : Int32) (x7 : Int32) (x8 : Int32) (x9 : Int32) (x12 : Int32) (x13 : Int32) (x14 : Int32) (x15 : Int32) (x16 : Int32) (x17 : Int32) (x18 : Int32) (x19 : Int32) (x20 : Int32) (x21 : Int32) (x22 : Int32) (x23 : Int32) (mem : Mem), k312 x3 x4 x5 x6 x7 x8 x9 x12 x13 x14 x15 x16 x17 x18 x19 x20 x21 x22 x23 mem = some ((1 : Int32), mem') → V p l e room_1 s m #[Value.ref b] below meth c 600000 7302250 (lw_Z below #[Value.ref b] s) k 33 mem 312 [(0, aR 24 0), (1, aR 0 0), (2, aR 13 0), (3, aI x3), (4, aI x4), (5, aI x5), (6, aI x6), (7, aI x7), (8, aI x8), (9, aI x9), (12, aI x12), (13, aI x13), (14, aI x14), (15, aI x15), (16, aI x16), (17, aI x17), (18, aI x18), (19, aI x19), (20, aI x20), (21, aI x21), (22, aI x22), (23, aI x23)] []) : ∀ (x3 : Int32) (x4 : Int32) (x5 : Int32) (x6 : Int32) (x7 : Int32) (x8 : Int32) (x9 : Int32) (x12 : Int32) (x13 : Int32) (x14 : Int32) (x15 : Int32) (x16 : Int32) (x17 : Int32) (x18 : Int32) (x19 : Int32) (x20 : Int32) (x21 : Int32) (x22 : Int32) (x23 : Int32) (mem : Mem), dL_law_427 (kL k) (kx k) f k44 k312 x3 x4 x5 x6 x7 x8 x9 x12 x13 x14 x15 x16 x17 x18 x19 x20 x21 x22 x23 mem = some ((1 : Int32), mem') → V p l e room_1 s m #[Value.ref b] below meth c 600000 7302250 (lw_Z below #[Value.ref b] s) k 33 mem 427 [(0, aR 24 0), (1, aR 0 0), (2, aR 13 0), (3, aI x3), (4, aI x4), (5, aI x5), (6, aI x6), (7, aI x7), (8, aI x8), (9, aI x9), (12, aI x12), (13, aI x13), (14, aI x14), (15, aI x15), (16, aI x16), (17, aI x17), (18, aI x18), (19, aI x19), (20, aI x20), (21, aI x21), (22, aI x22), (23, aI x23)] [] := by
  intro x3 x4 x5 x6 x7 x8 x9 x12 x13 x14 x15 x16 x17 x18 x19 x20 x21 x22 x23 mem  h
  unfold dL_law_427 at h
  refine v_aload_n X (pc := 427) 1 rfl eL_law_427 rfl ?_
  refine v_iconst X (pc := 428) (v := (1 : Int32)) eL_law_428 (by decide) ?_
  obtain ⟨r1, m1, hc1, h⟩ := bd_some h
  refine v_callV X (pc := 429) [_] [] ok_V_L_66 (cW_pass  hc1) rfl (Nat.le_of_ble_eq_true rfl) ⟨Nat.le_of_ble_eq_true rfl, Nat.le_of_ble_eq_true rfl⟩ ⟨Nat.le_of_ble_eq_true rfl, Nat.le_of_ble_eq_true rfl⟩ (by decide) (by decide) rfl rfl eL_law_429 ?_
  refine v_iload X (pc := 432) 4 rfl eL_law_432 ?_
  refine v_iload X (pc := 434) 21 rfl eL_law_434 ?_
  refine v_iadd X (pc := 436) eL_law_436 ?_
  refine v_iconst X (pc := 437) (v := (1 : Int32)) eL_law_437 (by decide) ?_
  refine v_iadd X (pc := 438) eL_law_438 ?_
  refine v_icmp_eq X (pc := 439) (tgt := 444) h eL_law_439 (by decide) (fun h => ?_) (fun h => ?_)
  · refine v_iinc X (pc := 444) (v := (x23 + (1 : Int32))) (lv' := [(23, _), (0, _), (1, _), (2, _), (3, _), (4, _), (5, _), (6, _), (7, _), (8, _), (9, _), (12, _), (13, _), (14, _), (15, _), (16, _), (17, _), (18, _), (19, _), (20, _), (21, _), (22, _)]) 21 rfl (by rfl) eL_law_444 (Nat.le_of_ble_eq_true rfl) rfl ?_
    refine v_goto X (pc := 447) (tgt := 312) eL_law_447 (by decide) ?_
    exact v_sub [1, 2, 3, 4, 5, 6, 7, 8, 9, 10, 11, 12, 13, 14, 15, 16, 17, 18, 19, 20, 21, 0] rfl (hk312 _ _ _ _ _ _ _ _ _ _ _ _ _ _ _ _ _ _ _ _  h)
  · refine v_iconst X (pc := 442) (v := (0 : Int32)) eL_law_442 (by decide) ?_
    exact absurd (Prod.mk.inj (Option.some.inj h)).1 (by decide)
set_option maxHeartbeats 4000000 in
set_option maxRecDepth 100000 in
theorem cL_law_408 {p : Program} {l : Launch} {e : Env} {s : State} {m : MethodId} {b : Nat} {below : List Frame} {meth : Method} {c : Code} {k : KK} {f : Nat} {mem' : Mem} (X : CX p s m #[Value.ref b] meth c k code 33 "WallShiftsLaw") (hr : meth.sig.returnType = ret) (hk : kh k = s.heap.size) {k44 : Int32 → Int32 → Int32 → Mem → Option (Int32 × Mem)} (hk44 : ∀ (x3 : Int32) (x4 : Int32) (x5 : Int32) (mem : Mem), k44 x3 x4 x5 mem = some ((1 : Int32), mem') → V p l e room_1 s m #[Value.ref b] below meth c 600000 7302250 (lw_Z below #[Value.ref b] s) k 33 mem 44 [(0, aR 24 0), (1, aR 0 0), (2, aR 13 0), (3, aI x3), (4, aI x4), (5, aI x5)] []) {k312 : Int32 → Int32 → Int32 → Int32 → Int32 → Int32 → Int32 → Int32 → Int32 → Int32 → Int32 → Int32 → Int32 → Int32 → Int32 → Int32 → Int32 → Int32 → Int32 → Mem → Option (Int32 × Mem)} (hk312 : ∀ (x3 : Int32) (x4 : Int32) (x5 : Int32) (x6 : Int32) (x7 : Int32) (x8 : Int32) (x9 : Int32) (x12 : Int32) (x13 : Int32) (x14 : Int32) (x15 : Int32) (x16 : Int32) (x17 : Int32) (x18 : Int32) (x19 : Int32) (x20 : Int32) (x21 : Int32) (x22 : Int32) (x23 : Int32) (mem : Mem), k312 x3 x4 x5 x6 x7 x8 x9 x12 x13 x14 x15 x16 x17 x18 x19 x20 x21 x22 x23 mem = some ((1 : Int32), mem') → V p l e room_1 s m #[Value.ref b] below meth c 600000 7302250 (lw_Z below #[Value.ref b] s) k 33 mem 312 [(0, aR 24 0), (1, aR 0 0), (2, aR 13 0), (3, aI x3), (4, aI x4), (5, aI x5), (6, aI x6), (7, aI x7), (8, aI x8), (9, aI x9), (12, aI x12), (13, aI x13), (14, aI x14), (15, aI x15), (16, aI x16), (17, aI x17), (18, aI x18), (19, aI x19), (20, aI x20), (21, aI x21), (22, aI x22), (23, aI x23)] []) : ∀ (x3 : Int32) (x4 : Int32) (x5 : Int32) (x6 : Int32) (x7 : Int32) (x8 : Int32) (x9 : Int32) (x12 : Int32) (x13 : Int32) (x14 : Int32) (x15 : Int32) (x16 : Int32) (x17 : Int32) (x18 : Int32) (x19 : Int32) (x20 : Int32) (x21 : Int32) (x22 : Int32) (x23 : Int32) (mem : Mem), dL_law_408 (kL k) (kx k) f k44 k312 x3 x4 x5 x6 x7 x8 x9 x12 x13 x14 x15 x16 x17 x18 x19 x20 x21 x22 x23 mem = some ((1 : Int32), mem') → V p l e room_1 s m #[Value.ref b] below meth c 600000 7302250 (lw_Z below #[Value.ref b] s) k 33 mem 408 [(0, aR 24 0), (1, aR 0 0), (2, aR 13 0), (3, aI x3), (4, aI x4), (5, aI x5), (6, aI x6), (7, aI x7), (8, aI x8), (9, aI x9), (12, aI x12), (13, aI x13), (14, aI x14), (15, aI x15), (16, aI x16), (17, aI x17), (18, aI x18), (19, aI x19), (20, aI x20), (21, aI x21), (22, aI x22), (23, aI x23)] [] := by
  intro x3 x4 x5 x6 x7 x8 x9 x12 x13 x14 x15 x16 x17 x18 x19 x20 x21 x22 x23 mem  h
  unfold dL_law_408 at h
  refine v_iload X (pc := 408) 13 rfl eL_law_408 ?_
  refine v_if_lt X (pc := 410) (tgt := 427) h eL_law_410 (by decide) (fun h => ?_) (fun h => ?_)
  · exact v_sub [0, 1, 2, 3, 4, 5, 6, 7, 8, 9, 10, 11, 12, 13, 14, 15, 16, 17, 18, 19, 20, 21] rfl (cL_law_427 X hr hk hk44 hk312 _ _ _ _ _ _ _ _ _ _ _ _ _ _ _ _ _ _ _ _  h)
  · refine v_aload_n X (pc := 413) 1 rfl eL_law_413 rfl ?_
    refine v_iload X (pc := 414) 7 rfl eL_law_414 ?_
    refine v_iload X (pc := 416) 13 rfl eL_law_416 ?_
    obtain ⟨r1, m1, hc1, h⟩ := bd_some h
    refine v_callS X (pc := 418) [_, _, _] [] ok_S_L_113 (cL_isUnheard  hc1) rfl (Nat.le_of_ble_eq_true rfl) ⟨Nat.le_of_ble_eq_true rfl, Nat.le_of_ble_eq_true rfl⟩ ⟨Nat.le_of_ble_eq_true rfl, Nat.le_of_ble_eq_true rfl⟩ eL_law_418 ?_
    refine v_if_eq X (pc := 421) (tgt := 427) h eL_law_421 (by decide) (fun h => ?_) (fun h => ?_)
    · exact v_sub [0, 1, 2, 3, 4, 5, 6, 7, 8, 9, 10, 11, 12, 13, 14, 15, 16, 17, 18, 19, 20, 21] rfl (cL_law_427 X hr hk hk44 hk312 _ _ _ _ _ _ _ _ _ _ _ _ _ _ _ _ _ _ _ _  h)
    · refine v_iinc X (pc := 424) (v := (x20 + (1 : Int32))) (lv' := [(20, _), (0, _), (1, _), (2, _), (3, _), (4, _), (5, _), (6, _), (7, _), (8, _), (9, _), (12, _), (13, _), (14, _), (15, _), (16, _), (17, _), (18, _), (19, _), (21, _), (22, _), (23, _)]) 18 rfl (by rfl) eL_law_424 (Nat.le_of_ble_eq_true rfl) rfl ?_
      exact v_sub [1, 2, 3, 4, 5, 6, 7, 8, 9, 10, 11, 12, 13, 14, 15, 16, 17, 18, 0, 19, 20, 21] rfl (cL_law_427 X hr hk hk44 hk312 _ _ _ _ _ _ _ _ _ _ _ _ _ _ _ _ _ _ _ _  h)
set_option maxHeartbeats 4000000 in
set_option maxRecDepth 100000 in
theorem cL_law_381 {p : Program} {l : Launch} {e : Env} {s : State} {m : MethodId} {b : Nat} {below : List Frame} {meth : Method} {c : Code} {k : KK} {f : Nat} {mem' : Mem} (X : CX p s m #[Value.ref b] meth c k code 33 "WallShiftsLaw") (hr : meth.sig.returnType = ret) (hk : kh k = s.heap.size) {k44 : Int32 → Int32 → Int32 → Mem → Option (Int32 × Mem)} (hk44 : ∀ (x3 : Int32) (x4 : Int32) (x5 : Int32) (mem : Mem), k44 x3 x4 x5 mem = some ((1 : Int32), mem') → V p l e room_1 s m #[Value.ref b] below meth c 600000 7302250 (lw_Z below #[Value.ref b] s) k 33 mem 44 [(0, aR 24 0), (1, aR 0 0), (2, aR 13 0), (3, aI x3), (4, aI x4), (5, aI x5)] []) {k312 : Int32 → Int32 → Int32 → Int32 → Int32 → Int32 → Int32 → Int32 → Int32 → Int32 → Int32 → Int32 → Int32 → Int32 → Int32 → Int32 → Int32 → Int32 → Int32 → Mem → Option (Int32 × Mem)} (hk312 : ∀ (x3 : Int32) (x4 : Int32) (x5 : Int32) (x6 : Int32) (x7 : Int32) (x8 : Int32) (x9 : Int32) (x12 : Int32) (x13 : Int32) (x14 : Int32) (x15 : Int32) (x16 : Int32) (x17 : Int32) (x18 : Int32) (x19 : Int32) (x20 : Int32) (x21 : Int32) (x22 : Int32) (x23 : Int32) (mem : Mem), k312 x3 x4 x5 x6 x7 x8 x9 x12 x13 x14 x15 x16 x17 x18 x19 x20 x21 x22 x23 mem = some ((1 : Int32), mem') → V p l e room_1 s m #[Value.ref b] below meth c 600000 7302250 (lw_Z below #[Value.ref b] s) k 33 mem 312 [(0, aR 24 0), (1, aR 0 0), (2, aR 13 0), (3, aI x3), (4, aI x4), (5, aI x5), (6, aI x6), (7, aI x7), (8, aI x8), (9, aI x9), (12, aI x12), (13, aI x13), (14, aI x14), (15, aI x15), (16, aI x16), (17, aI x17), (18, aI x18), (19, aI x19), (20, aI x20), (21, aI x21), (22, aI x22), (23, aI x23)] []) : ∀ (x3 : Int32) (x4 : Int32) (x5 : Int32) (x6 : Int32) (x7 : Int32) (x8 : Int32) (x9 : Int32) (x12 : Int32) (x13 : Int32) (x14 : Int32) (x15 : Int32) (x16 : Int32) (x17 : Int32) (x18 : Int32) (x19 : Int32) (x20 : Int32) (x21 : Int32) (x22 : Int32) (x23 : Int32) (mem : Mem), dL_law_381 (kL k) (kx k) f k44 k312 x3 x4 x5 x6 x7 x8 x9 x12 x13 x14 x15 x16 x17 x18 x19 x20 x21 x22 x23 mem = some ((1 : Int32), mem') → V p l e room_1 s m #[Value.ref b] below meth c 600000 7302250 (lw_Z below #[Value.ref b] s) k 33 mem 381 [(0, aR 24 0), (1, aR 0 0), (2, aR 13 0), (3, aI x3), (4, aI x4), (5, aI x5), (6, aI x6), (7, aI x7), (8, aI x8), (9, aI x9), (12, aI x12), (13, aI x13), (14, aI x14), (15, aI x15), (16, aI x16), (17, aI x17), (18, aI x18), (19, aI x19), (20, aI x20), (21, aI x21), (22, aI x22), (23, aI x23)] [] := by
  intro x3 x4 x5 x6 x7 x8 x9 x12 x13 x14 x15 x16 x17 x18 x19 x20 x21 x22 x23 mem  h
  unfold dL_law_381 at h
  refine v_iload X (pc := 381) 12 rfl eL_law_381 ?_
  refine v_if_lt X (pc := 383) (tgt := 408) h eL_law_383 (by decide) (fun h => ?_) (fun h => ?_)
  · exact v_sub [0, 1, 2, 3, 4, 5, 6, 7, 8, 9, 10, 11, 12, 13, 14, 15, 16, 17, 18, 19, 20, 21] rfl (cL_law_408 X hr hk hk44 hk312 _ _ _ _ _ _ _ _ _ _ _ _ _ _ _ _ _ _ _ _  h)
  · refine v_aload_n X (pc := 386) 1 rfl eL_law_386 rfl ?_
    refine v_iload X (pc := 387) 7 rfl eL_law_387 ?_
    refine v_sipush X (pc := 389) (v := (1023 : Int32)) eL_law_389 (by decide) ?_
    refine v_iconst X (pc := 392) (v := (1 : Int32)) eL_law_392 (by decide) ?_
    refine v_iload X (pc := 393) 12 rfl eL_law_393 ?_
    refine v_ishl X (pc := 395) eL_law_395 ?_
    refine v_iconst X (pc := 396) (v := (-1 : Int32)) eL_law_396 (by decide) ?_
    refine v_ixor X (pc := 397) eL_law_397 ?_
    refine v_iand X (pc := 398) eL_law_398 ?_
    obtain ⟨r1, m1, hc1, h⟩ := bd_some h
    refine v_callS X (pc := 399) [_, _, _] [] ok_S_L_113 (cL_isUnheard  hc1) rfl (Nat.le_of_ble_eq_true rfl) ⟨Nat.le_of_ble_eq_true rfl, Nat.le_of_ble_eq_true rfl⟩ ⟨Nat.le_of_ble_eq_true rfl, Nat.le_of_ble_eq_true rfl⟩ eL_law_399 ?_
    refine v_if_eq X (pc := 402) (tgt := 408) h eL_law_402 (by decide) (fun h => ?_) (fun h => ?_)
    · exact v_sub [0, 1, 2, 3, 4, 5, 6, 7, 8, 9, 10, 11, 12, 13, 14, 15, 16, 17, 18, 19, 20, 21] rfl (cL_law_408 X hr hk hk44 hk312 _ _ _ _ _ _ _ _ _ _ _ _ _ _ _ _ _ _ _ _  h)
    · refine v_iinc X (pc := 405) (v := (x19 + (1 : Int32))) (lv' := [(19, _), (0, _), (1, _), (2, _), (3, _), (4, _), (5, _), (6, _), (7, _), (8, _), (9, _), (12, _), (13, _), (14, _), (15, _), (16, _), (17, _), (18, _), (20, _), (21, _), (22, _), (23, _)]) 17 rfl (by rfl) eL_law_405 (Nat.le_of_ble_eq_true rfl) rfl ?_
      exact v_sub [1, 2, 3, 4, 5, 6, 7, 8, 9, 10, 11, 12, 13, 14, 15, 16, 17, 0, 18, 19, 20, 21] rfl (cL_law_408 X hr hk hk44 hk312 _ _ _ _ _ _ _ _ _ _ _ _ _ _ _ _ _ _ _ _  h)
set_option maxHeartbeats 4000000 in
set_option maxRecDepth 100000 in
theorem cL_law_366 {p : Program} {l : Launch} {e : Env} {s : State} {m : MethodId} {b : Nat} {below : List Frame} {meth : Method} {c : Code} {k : KK} {f : Nat} {mem' : Mem} (X : CX p s m #[Value.ref b] meth c k code 33 "WallShiftsLaw") (hr : meth.sig.returnType = ret) (hk : kh k = s.heap.size) {k44 : Int32 → Int32 → Int32 → Mem → Option (Int32 × Mem)} (hk44 : ∀ (x3 : Int32) (x4 : Int32) (x5 : Int32) (mem : Mem), k44 x3 x4 x5 mem = some ((1 : Int32), mem') → V p l e room_1 s m #[Value.ref b] below meth c 600000 7302250 (lw_Z below #[Value.ref b] s) k 33 mem 44 [(0, aR 24 0), (1, aR 0 0), (2, aR 13 0), (3, aI x3), (4, aI x4), (5, aI x5)] []) {k312 : Int32 → Int32 → Int32 → Int32 → Int32 → Int32 → Int32 → Int32 → Int32 → Int32 → Int32 → Int32 → Int32 → Int32 → Int32 → Int32 → Int32 → Int32 → Int32 → Mem → Option (Int32 × Mem)} (hk312 : ∀ (x3 : Int32) (x4 : Int32) (x5 : Int32) (x6 : Int32) (x7 : Int32) (x8 : Int32) (x9 : Int32) (x12 : Int32) (x13 : Int32) (x14 : Int32) (x15 : Int32) (x16 : Int32) (x17 : Int32) (x18 : Int32) (x19 : Int32) (x20 : Int32) (x21 : Int32) (x22 : Int32) (x23 : Int32) (mem : Mem), k312 x3 x4 x5 x6 x7 x8 x9 x12 x13 x14 x15 x16 x17 x18 x19 x20 x21 x22 x23 mem = some ((1 : Int32), mem') → V p l e room_1 s m #[Value.ref b] below meth c 600000 7302250 (lw_Z below #[Value.ref b] s) k 33 mem 312 [(0, aR 24 0), (1, aR 0 0), (2, aR 13 0), (3, aI x3), (4, aI x4), (5, aI x5), (6, aI x6), (7, aI x7), (8, aI x8), (9, aI x9), (12, aI x12), (13, aI x13), (14, aI x14), (15, aI x15), (16, aI x16), (17, aI x17), (18, aI x18), (19, aI x19), (20, aI x20), (21, aI x21), (22, aI x22), (23, aI x23)] []) : ∀ (x3 : Int32) (x4 : Int32) (x5 : Int32) (x6 : Int32) (x7 : Int32) (x8 : Int32) (x9 : Int32) (x12 : Int32) (x13 : Int32) (x14 : Int32) (x15 : Int32) (x16 : Int32) (x17 : Int32) (x18 : Int32) (x19 : Int32) (x20 : Int32) (x21 : Int32) (x22 : Int32) (x23 : Int32) (x24 : Int32) (mem : Mem), dL_law_366 (kL k) (kx k) f k44 k312 x3 x4 x5 x6 x7 x8 x9 x12 x13 x14 x15 x16 x17 x18 x19 x20 x21 x22 x23 x24 mem = some ((1 : Int32), mem') → V p l e room_1 s m #[Value.ref b] below meth c 600000 7302250 (lw_Z below #[Value.ref b] s) k 33 mem 366 [(0, aR 24 0), (1, aR 0 0), (2, aR 13 0), (3, aI x3), (4, aI x4), (5, aI x5), (6, aI x6), (7, aI x7), (8, aI x8), (9, aI x9), (12, aI x12), (13, aI x13), (14, aI x14), (15, aI x15), (16, aI x16), (17, aI x17), (18, aI x18), (19, aI x19), (20, aI x20), (21, aI x21), (22, aI x22), (23, aI x23), (24, aI x24)] [] := by
  intro x3 x4 x5 x6 x7 x8 x9 x12 x13 x14 x15 x16 x17 x18 x19 x20 x21 x22 x23 x24 mem  h
  unfold dL_law_366 at h
  refine v_iload X (pc := 366) 21 rfl eL_law_366 ?_
  refine v_iload X (pc := 368) 10 rfl eL_law_368 ?_
  refine v_icmp_ge X (pc := 370) (tgt := 427) h eL_law_370 (by decide) (fun h => ?_) (fun h => ?_)
  · refine v_iload X (pc := 373) 22 rfl eL_law_373 ?_
    refine v_if_eq X (pc := 375) (tgt := 381) h eL_law_375 (by decide) (fun h => ?_) (fun h => ?_)
    · exact v_sub [0, 1, 2, 3, 4, 5, 6, 7, 8, 9, 10, 11, 12, 13, 14, 15, 16, 17, 18, 19, 20, 21] rfl (cL_law_381 X hr hk hk44 hk312 _ _ _ _ _ _ _ _ _ _ _ _ _ _ _ _ _ _ _ _  h)
    · refine v_iinc X (pc := 378) (v := (x18 + (1 : Int32))) (lv' := [(18, _), (0, _), (1, _), (2, _), (3, _), (4, _), (5, _), (6, _), (7, _), (8, _), (9, _), (12, _), (13, _), (14, _), (15, _), (16, _), (17, _), (19, _), (20, _), (21, _), (22, _), (23, _), (24, _)]) 16 rfl (by rfl) eL_law_378 (Nat.le_of_ble_eq_true rfl) rfl ?_
      exact v_sub [1, 2, 3, 4, 5, 6, 7, 8, 9, 10, 11, 12, 13, 14, 15, 16, 0, 17, 18, 19, 20, 21] rfl (cL_law_381 X hr hk hk44 hk312 _ _ _ _ _ _ _ _ _ _ _ _ _ _ _ _ _ _ _ _  h)
  · exact v_sub [0, 1, 2, 3, 4, 5, 6, 7, 8, 9, 10, 11, 12, 13, 14, 15, 16, 17, 18, 19, 20, 21] rfl (cL_law_427 X hr hk hk44 hk312 _ _ _ _ _ _ _ _ _ _ _ _ _ _ _ _ _ _ _ _  h)
set_option maxHeartbeats 4000000 in
set_option maxRecDepth 100000 in
theorem cL_law_343 {p : Program} {l : Launch} {e : Env} {s : State} {m : MethodId} {b : Nat} {below : List Frame} {meth : Method} {c : Code} {k : KK} {f : Nat} {mem' : Mem} (X : CX p s m #[Value.ref b] meth c k code 33 "WallShiftsLaw") (hr : meth.sig.returnType = ret) (hk : kh k = s.heap.size) {k44 : Int32 → Int32 → Int32 → Mem → Option (Int32 × Mem)} (hk44 : ∀ (x3 : Int32) (x4 : Int32) (x5 : Int32) (mem : Mem), k44 x3 x4 x5 mem = some ((1 : Int32), mem') → V p l e room_1 s m #[Value.ref b] below meth c 600000 7302250 (lw_Z below #[Value.ref b] s) k 33 mem 44 [(0, aR 24 0), (1, aR 0 0), (2, aR 13 0), (3, aI x3), (4, aI x4), (5, aI x5)] []) {k312 : Int32 → Int32 → Int32 → Int32 → Int32 → Int32 → Int32 → Int32 → Int32 → Int32 → Int32 → Int32 → Int32 → Int32 → Int32 → Int32 → Int32 → Int32 → Int32 → Mem → Option (Int32 × Mem)} (hk312 : ∀ (x3 : Int32) (x4 : Int32) (x5 : Int32) (x6 : Int32) (x7 : Int32) (x8 : Int32) (x9 : Int32) (x12 : Int32) (x13 : Int32) (x14 : Int32) (x15 : Int32) (x16 : Int32) (x17 : Int32) (x18 : Int32) (x19 : Int32) (x20 : Int32) (x21 : Int32) (x22 : Int32) (x23 : Int32) (mem : Mem), k312 x3 x4 x5 x6 x7 x8 x9 x12 x13 x14 x15 x16 x17 x18 x19 x20 x21 x22 x23 mem = some ((1 : Int32), mem') → V p l e room_1 s m #[Value.ref b] below meth c 600000 7302250 (lw_Z below #[Value.ref b] s) k 33 mem 312 [(0, aR 24 0), (1, aR 0 0), (2, aR 13 0), (3, aI x3), (4, aI x4), (5, aI x5), (6, aI x6), (7, aI x7), (8, aI x8), (9, aI x9), (12, aI x12), (13, aI x13), (14, aI x14), (15, aI x15), (16, aI x16), (17, aI x17), (18, aI x18), (19, aI x19), (20, aI x20), (21, aI x21), (22, aI x22), (23, aI x23)] []) : ∀ (x3 : Int32) (x4 : Int32) (x5 : Int32) (x6 : Int32) (x7 : Int32) (x8 : Int32) (x9 : Int32) (x12 : Int32) (x13 : Int32) (x14 : Int32) (x15 : Int32) (x16 : Int32) (x17 : Int32) (x18 : Int32) (x19 : Int32) (x20 : Int32) (x22 : Int32) (x23 : Int32) (x24 : Int32) (s0 : Int32) (mem : Mem), dL_law_343 (kL k) (kx k) f k44 k312 x3 x4 x5 x6 x7 x8 x9 x12 x13 x14 x15 x16 x17 x18 x19 x20 x22 x23 x24 s0 mem = some ((1 : Int32), mem') → V p l e room_1 s m #[Value.ref b] below meth c 600000 7302250 (lw_Z below #[Value.ref b] s) k 33 mem 343 [(0, aR 24 0), (1, aR 0 0), (2, aR 13 0), (3, aI x3), (4, aI x4), (5, aI x5), (6, aI x6), (7, aI x7), (8, aI x8), (9, aI x9), (12, aI x12), (13, aI x13), (14, aI x14), (15, aI x15), (16, aI x16), (17, aI x17), (18, aI x18), (19, aI x19), (20, aI x20), (22, aI x22), (23, aI x23), (24, aI x24)] [aI s0] := by
  intro x3 x4 x5 x6 x7 x8 x9 x12 x13 x14 x15 x16 x17 x18 x19 x20 x22 x23 x24 s0 mem  h
  unfold dL_law_343 at h
  refine v_istore X (pc := 343) (lv' := [(21, _), (0, _), (1, _), (2, _), (3, _), (4, _), (5, _), (6, _), (7, _), (8, _), (9, _), (12, _), (13, _), (14, _), (15, _), (16, _), (17, _), (18, _), (19, _), (20, _), (22, _), (23, _), (24, _)]) eL_law_343 (Nat.le_of_ble_eq_true rfl) rfl ?_
  refine v_iload X (pc := 345) 0 rfl eL_law_345 ?_
  refine v_iload X (pc := 347) 9 rfl eL_law_347 ?_
  refine v_icmp_ne X (pc := 349) (tgt := 366) h eL_law_349 (by decide) (fun h => ?_) (fun h => ?_)
  · refine v_iload X (pc := 352) 20 rfl eL_law_352 ?_
    refine v_if_ge X (pc := 354) (tgt := 366) h eL_law_354 (by decide) (fun h => ?_) (fun h => ?_)
    · refine v_iload X (pc := 357) 21 rfl eL_law_357 ?_
      refine v_iconst X (pc := 359) (v := (1 : Int32)) eL_law_359 (by decide) ?_
      refine v_iadd X (pc := 360) eL_law_360 ?_
      refine v_iload X (pc := 361) 9 rfl eL_law_361 ?_
      refine v_isub X (pc := 363) eL_law_363 ?_
      refine v_istore X (pc := 364) (lv' := [(22, _), (21, _), (0, _), (1, _), (2, _), (3, _), (4, _), (5, _), (6, _), (7, _), (8, _), (9, _), (12, _), (13, _), (14, _), (15, _), (16, _), (17, _), (18, _), (19, _), (20, _), (23, _), (24, _)]) eL_law_364 (Nat.le_of_ble_eq_true rfl) rfl ?_
      exact v_sub [2, 3, 4, 5, 6, 7, 8, 9, 10, 11, 12, 13, 14, 15, 16, 17, 18, 19, 20, 1, 0, 21, 22] rfl (cL_law_366 X hr hk hk44 hk312 _ _ _ _ _ _ _ _ _ _ _ _ _ _ _ _ _ _ _ _ _  h)
    · exact v_sub [1, 2, 3, 4, 5, 6, 7, 8, 9, 10, 11, 12, 13, 14, 15, 16, 17, 18, 19, 0, 20, 21, 22] rfl (cL_law_366 X hr hk hk44 hk312 _ _ _ _ _ _ _ _ _ _ _ _ _ _ _ _ _ _ _ _ _  h)
  · exact v_sub [1, 2, 3, 4, 5, 6, 7, 8, 9, 10, 11, 12, 13, 14, 15, 16, 17, 18, 19, 0, 20, 21, 22] rfl (cL_law_366 X hr hk hk44 hk312 _ _ _ _ _ _ _ _ _ _ _ _ _ _ _ _ _ _ _ _ _  h)
set_option maxHeartbeats 4000000 in
set_option maxRecDepth 100000 in
theorem cL_law_1019 {p : Program} {l : Launch} {e : Env} {s : State} {m : MethodId} {b : Nat} {below : List Frame} {meth : Method} {c : Code} {k : KK} {f : Nat} {mem' : Mem} (X : CX p s m #[Value.ref b] meth c k code 33 "WallShiftsLaw") (hr : meth.sig.returnType = ret) (hk : kh k = s.heap.size) {k44 : Int32 → Int32 → Int32 → Mem → Option (Int32 × Mem)} (hk44 : ∀ (x3 : Int32) (x4 : Int32) (x5 : Int32) (mem : Mem), k44 x3 x4 x5 mem = some ((1 : Int32), mem') → V p l e room_1 s m #[Value.ref b] below meth c 600000 7302250 (lw_Z below #[Value.ref b] s) k 33 mem 44 [(0, aR 24 0), (1, aR 0 0), (2, aR 13 0), (3, aI x3), (4, aI x4), (5, aI x5)] []) {k942 : Int32 → Int32 → Int32 → Int32 → Int32 → Int32 → Int32 → Int32 → Int32 → Int32 → Mem → Option (Int32 × Mem)} (hk942 : ∀ (x3 : Int32) (x4 : Int32) (x5 : Int32) (x7 : Int32) (x25 : Int32) (x26 : Int32) (x27 : Int32) (x28 : Int32) (x29 : Int32) (x30 : Int32) (mem : Mem), k942 x3 x4 x5 x7 x25 x26 x27 x28 x29 x30 mem = some ((1 : Int32), mem') → V p l e room_1 s m #[Value.ref b] below meth c 600000 7302250 (lw_Z below #[Value.ref b] s) k 33 mem 942 [(0, aR 24 0), (1, aR 0 0), (2, aR 13 0), (3, aI x3), (4, aI x4), (5, aI x5), (7, aI x7), (25, aI x25), (26, aI x26), (27, aI x27), (28, aI x28), (29, aI x29), (30, aI x30)] []) : ∀ (x3 : Int32) (x4 : Int32) (x5 : Int32) (x7 : Int32) (x25 : Int32) (x26 : Int32) (x27 : Int32) (x28 : Int32) (x29 : Int32) (x30 : Int32) (mem : Mem), dL_law_1019 (kL k) (kx k) f k44 k942 x3 x4 x5 x7 x25 x26 x27 x28 x29 x30 mem = some ((1 : Int32), mem') → V p l e room_1 s m #[Value.ref b] below meth c 600000 7302250 (lw_Z below #[Value.ref b] s) k 33 mem 1019 [(0, aR 24 0), (1, aR 0 0), (2, aR 13 0), (3, aI x3), (4, aI x4), (5, aI x5), (7, aI x7), (25, aI x25), (26, aI x26), (27, aI x27), (28, aI x28), (29, aI x29), (30, aI x30)] [] := by
  intro x3 x4 x5 x7 x25 x26 x27 x28 x29 x30 mem  h
  unfold dL_law_1019 at h
  refine v_aload_n X (pc := 1019) 1 rfl eL_law_1019 rfl ?_
  refine v_iconst X (pc := 1020) (v := (1 : Int32)) eL_law_1020 (by decide) ?_
  obtain ⟨r1, m1, hc1, h⟩ := bd_some h
  refine v_callV X (pc := 1021) [_] [] ok_V_L_66 (cW_pass  hc1) rfl (Nat.le_of_ble_eq_true rfl) ⟨Nat.le_of_ble_eq_true rfl, Nat.le_of_ble_eq_true rfl⟩ ⟨Nat.le_of_ble_eq_true rfl, Nat.le_of_ble_eq_true rfl⟩ (by decide) (by decide) rfl rfl eL_law_1021 ?_
  refine v_if_ge X (pc := 1024) (tgt := 1029) h eL_law_1024 (by decide) (fun h => ?_) (fun h => ?_)
  · refine v_iconst X (pc := 1027) (v := (0 : Int32)) eL_law_1027 (by decide) ?_
    exact absurd (Prod.mk.inj (Option.some.inj h)).1 (by decide)
  · refine v_iinc X (pc := 1029) (v := (x30 + (1 : Int32))) (lv' := [(30, _), (0, _), (1, _), (2, _), (3, _), (4, _), (5, _), (7, _), (25, _), (26, _), (27, _), (28, _), (29, _)]) 12 rfl (by rfl) eL_law_1029 (Nat.le_of_ble_eq_true rfl) rfl ?_
    refine v_goto X (pc := 1032) (tgt := 942) eL_law_1032 (by decide) ?_
    exact v_sub [1, 2, 3, 4, 5, 6, 7, 8, 9, 10, 11, 12, 0] rfl (hk942 _ _ _ _ _ _ _ _ _ _ _  h)
set_option maxHeartbeats 4000000 in
set_option maxRecDepth 100000 in
theorem cL_law_1104 {p : Program} {l : Launch} {e : Env} {s : State} {m : MethodId} {b : Nat} {below : List Frame} {meth : Method} {c : Code} {k : KK} {f : Nat} {mem' : Mem} (X : CX p s m #[Value.ref b] meth c k code 33 "WallShiftsLaw") (hr : meth.sig.returnType = ret) (hk : kh k = s.heap.size) {k44 : Int32 → Int32 → Int32 → Mem → Option (Int32 × Mem)} (hk44 : ∀ (x3 : Int32) (x4 : Int32) (x5 : Int32) (mem : Mem), k44 x3 x4 x5 mem = some ((1 : Int32), mem') → V p l e room_1 s m #[Value.ref b] below meth c 600000 7302250 (lw_Z below #[Value.ref b] s) k 33 mem 44 [(0, aR 24 0), (1, aR 0 0), (2, aR 13 0), (3, aI x3), (4, aI x4), (5, aI x5)] []) : ∀ (x3 : Int32) (x4 : Int32) (x5 : Int32) (mem : Mem), dL_law_1104 (kL k) (kx k) f k44 x3 x4 x5 mem = some ((1 : Int32), mem') → V p l e room_1 s m #[Value.ref b] below meth c 600000 7302250 (lw_Z below #[Value.ref b] s) k 33 mem 1104 [(0, aR 24 0), (1, aR 0 0), (2, aR 13 0), (3, aI x3), (4, aI x4), (5, aI x5)] [] := by
  intro x3 x4 x5 mem  h
  unfold dL_law_1104 at h
  refine v_aload_n X (pc := 1104) 1 rfl eL_law_1104 rfl ?_
  obtain ⟨r1, m1, hc1, h⟩ := bd_some h
  refine v_callV X (pc := 1105) [] [] ok_V_L_117 (cW_undo  hc1) rfl (Nat.le_of_ble_eq_true rfl) ⟨Nat.le_of_ble_eq_true rfl, Nat.le_of_ble_eq_true rfl⟩ ⟨Nat.le_of_ble_eq_true rfl, Nat.le_of_ble_eq_true rfl⟩ (by decide) (by decide) rfl rfl eL_law_1105 ?_
  refine v_iload_n X (pc := 1108) 3 rfl eL_law_1108 rfl ?_
  refine v_icmp_ne X (pc := 1109) (tgt := 1120) h eL_law_1109 (by decide) (fun h => ?_) (fun h => ?_)
  · refine v_aload_n X (pc := 1112) 1 rfl eL_law_1112 rfl ?_
    refine v_aload_n X (pc := 1113) 2 rfl eL_law_1113 rfl ?_
    obtain ⟨r2, m2, hc2, h⟩ := bd_some h
    refine v_callS X (pc := 1114) [_, _] [] ok_S_L_131 (cL_isSo  hc2) rfl (Nat.le_of_ble_eq_true rfl) ⟨Nat.le_of_ble_eq_true rfl, Nat.le_of_ble_eq_true rfl⟩ ⟨Nat.le_of_ble_eq_true rfl, Nat.le_of_ble_eq_true rfl⟩ eL_law_1114 ?_
    refine v_if_ne X (pc := 1117) (tgt := 1122) h eL_law_1117 (by decide) (fun h => ?_) (fun h => ?_)
    · refine v_iconst X (pc := 1120) (v := (0 : Int32)) eL_law_1120 (by decide) ?_
      exact absurd (Prod.mk.inj (Option.some.inj h)).1 (by decide)
    · refine v_iinc X (pc := 1122) (v := (x5 + (1 : Int32))) (lv' := [(5, _), (0, _), (1, _), (2, _), (3, _), (4, _)]) 5 rfl (by rfl) eL_law_1122 (Nat.le_of_ble_eq_true rfl) rfl ?_
      refine v_goto X (pc := 1125) (tgt := 44) eL_law_1125 (by decide) ?_
      exact v_sub [1, 2, 3, 4, 5, 0] rfl (hk44 _ _ _ _  h)
  · refine v_iconst X (pc := 1120) (v := (0 : Int32)) eL_law_1120 (by decide) ?_
    exact absurd (Prod.mk.inj (Option.some.inj h)).1 (by decide)
set_option maxHeartbeats 4000000 in
set_option maxRecDepth 100000 in
theorem cL_law_942 {p : Program} {l : Launch} {e : Env} {s : State} {m : MethodId} {b : Nat} {below : List Frame} {meth : Method} {c : Code} {k : KK} {f : Nat} {mem' : Mem} (X : CX p s m #[Value.ref b] meth c k code 33 "WallShiftsLaw") (hr : meth.sig.returnType = ret) (hk : kh k = s.heap.size) {k44 : Int32 → Int32 → Int32 → Mem → Option (Int32 × Mem)} (hk44 : ∀ (x3 : Int32) (x4 : Int32) (x5 : Int32) (mem : Mem), k44 x3 x4 x5 mem = some ((1 : Int32), mem') → V p l e room_1 s m #[Value.ref b] below meth c 600000 7302250 (lw_Z below #[Value.ref b] s) k 33 mem 44 [(0, aR 24 0), (1, aR 0 0), (2, aR 13 0), (3, aI x3), (4, aI x4), (5, aI x5)] []) : ∀ (n : Nat) (x3 : Int32) (x4 : Int32) (x5 : Int32) (x7 : Int32) (x25 : Int32) (x26 : Int32) (x27 : Int32) (x28 : Int32) (x29 : Int32) (x30 : Int32) (mem : Mem), dL_law_942 (kL k) (kx k) f k44 n x3 x4 x5 x7 x25 x26 x27 x28 x29 x30 mem = some ((1 : Int32), mem') → V p l e room_1 s m #[Value.ref b] below meth c 600000 7302250 (lw_Z below #[Value.ref b] s) k 33 mem 942 [(0, aR 24 0), (1, aR 0 0), (2, aR 13 0), (3, aI x3), (4, aI x4), (5, aI x5), (7, aI x7), (25, aI x25), (26, aI x26), (27, aI x27), (28, aI x28), (29, aI x29), (30, aI x30)] [] := by
  intro n
  induction n with
  | zero =>
    intro x3 x4 x5 x7 x25 x26 x27 x28 x29 x30 mem  h
    exact nomatch (show (none : Option (Int32 × Mem)) = some _ from h)
  | succ n ih =>
    intro x3 x4 x5 x7 x25 x26 x27 x28 x29 x30 mem  h
    rw [dL_law_942] at h
    refine v_iload X (pc := 942) 12 rfl eL_law_942 ?_
    refine v_bipush X (pc := 944) (v := (16 : Int32)) eL_law_944 (by decide) ?_
    refine v_icmp_ge X (pc := 946) (tgt := 1035) h eL_law_946 (by decide) (fun h => ?_) (fun h => ?_)
    · refine v_iload X (pc := 949) 7 rfl eL_law_949 ?_
      refine v_iload X (pc := 951) 12 rfl eL_law_951 ?_
      refine v_ishr X (pc := 953) eL_law_953 ?_
      refine v_iconst X (pc := 954) (v := (1 : Int32)) eL_law_954 (by decide) ?_
      refine v_iand X (pc := 955) eL_law_955 ?_
      refine v_if_ne X (pc := 956) (tgt := 962) h eL_law_956 (by decide) (fun h => ?_) (fun h => ?_)
      · refine v_goto X (pc := 959) (tgt := 1029) eL_law_959 (by decide) ?_
        refine v_iinc X (pc := 1029) (v := (x30 + (1 : Int32))) (lv' := [(30, _), (0, _), (1, _), (2, _), (3, _), (4, _), (5, _), (7, _), (25, _), (26, _), (27, _), (28, _), (29, _)]) 12 rfl (by rfl) eL_law_1029 (Nat.le_of_ble_eq_true rfl) rfl ?_
        refine v_goto X (pc := 1032) (tgt := 942) eL_law_1032 (by decide) ?_
        exact v_sub [1, 2, 3, 4, 5, 6, 7, 8, 9, 10, 11, 12, 0] rfl (ih _ _ _ _ _ _ _ _ _ _ _  h)
      · refine v_aload_n X (pc := 962) 1 rfl eL_law_962 rfl ?_
        refine v_aload_n X (pc := 963) 1 rfl eL_law_963 rfl ?_
        refine v_iconst X (pc := 964) (v := (0 : Int32)) eL_law_964 (by decide) ?_
        obtain ⟨r1, m1, hc1, h⟩ := bd_some h
        refine v_callV X (pc := 965) [_] [_] ok_V_L_74 (cW_now  hc1) rfl (Nat.le_of_ble_eq_true rfl) ⟨Nat.le_of_ble_eq_true rfl, Nat.le_of_ble_eq_true rfl⟩ ⟨Nat.le_of_ble_eq_true rfl, Nat.le_of_ble_eq_true rfl⟩ (by decide) (by decide) rfl rfl eL_law_965 ?_
        obtain ⟨r2, m2, hc2, h⟩ := bd_some h
        refine v_callV X (pc := 968) [_] [] ok_V_L_77 (cW_duty  hc2) rfl (Nat.le_of_ble_eq_true rfl) ⟨Nat.le_of_ble_eq_true rfl, Nat.le_of_ble_eq_true rfl⟩ ⟨Nat.le_of_ble_eq_true rfl, Nat.le_of_ble_eq_true rfl⟩ (by decide) (by decide) rfl rfl eL_law_968 ?_
        refine v_istore X (pc := 971) (lv' := [(31, _), (0, _), (1, _), (2, _), (3, _), (4, _), (5, _), (7, _), (25, _), (26, _), (27, _), (28, _), (29, _), (30, _)]) eL_law_971 (Nat.le_of_ble_eq_true rfl) rfl ?_
        refine v_aload_n X (pc := 973) 2 rfl eL_law_973 rfl ?_
        refine v_iload X (pc := 974) 7 rfl eL_law_974 ?_
        refine v_iload X (pc := 976) 13 rfl eL_law_976 ?_
        obtain ⟨r3, m3, hc3, h⟩ := bd_some h
        refine v_callV X (pc := 978) [_, _] [] ok_V_L_126 (cW_say  hc3) rfl (Nat.le_of_ble_eq_true rfl) ⟨Nat.le_of_ble_eq_true rfl, Nat.le_of_ble_eq_true rfl⟩ ⟨Nat.le_of_ble_eq_true rfl, Nat.le_of_ble_eq_true rfl⟩ (by decide) (by decide) rfl rfl eL_law_978 ?_
        refine v_istore X (pc := 981) (lv' := [(32, _), (31, _), (0, _), (1, _), (2, _), (3, _), (4, _), (5, _), (7, _), (25, _), (26, _), (27, _), (28, _), (29, _), (30, _)]) eL_law_981 (Nat.le_of_ble_eq_true rfl) rfl ?_
        refine v_iload X (pc := 983) 0 rfl eL_law_983 ?_
        refine v_iload X (pc := 985) 1 rfl eL_law_985 ?_
        refine v_iconst X (pc := 987) (v := (-1 : Int32)) eL_law_987 (by decide) ?_
        refine v_ixor X (pc := 988) eL_law_988 ?_
        refine v_iand X (pc := 989) eL_law_989 ?_
        refine v_if_eq X (pc := 990) (tgt := 995) h eL_law_990 (by decide) (fun h => ?_) (fun h => ?_)
        · refine v_iload X (pc := 995) 12 rfl eL_law_995 ?_
          refine v_iload X (pc := 997) 0 rfl eL_law_997 ?_
          obtain ⟨r4, m4, hc4, h⟩ := bd_some h
          refine v_callS X (pc := 999) [_] [_] ok_S_L_30 (cL_ones  hc4) rfl (Nat.le_of_ble_eq_true rfl) ⟨Nat.le_of_ble_eq_true rfl, Nat.le_of_ble_eq_true rfl⟩ ⟨Nat.le_of_ble_eq_true rfl, Nat.le_of_ble_eq_true rfl⟩ eL_law_999 ?_
          refine v_iadd X (pc := 1002) eL_law_1002 ?_
          refine v_istore X (pc := 1003) (lv' := [(28, _), (32, _), (31, _), (0, _), (1, _), (2, _), (3, _), (4, _), (5, _), (7, _), (25, _), (26, _), (27, _), (29, _), (30, _)]) eL_law_1003 (Nat.le_of_ble_eq_true rfl) rfl ?_
          refine v_iload X (pc := 1005) 1 rfl eL_law_1005 ?_
          refine v_if_ne X (pc := 1007) (tgt := 1019) h eL_law_1007 (by decide) (fun h => ?_) (fun h => ?_)
          · refine v_iload X (pc := 1010) 13 rfl eL_law_1010 ?_
            refine v_iconst X (pc := 1012) (v := (1 : Int32)) eL_law_1012 (by decide) ?_
            refine v_iload X (pc := 1013) 14 rfl eL_law_1013 ?_
            refine v_ishl X (pc := 1015) eL_law_1015 ?_
            refine v_ior X (pc := 1016) eL_law_1016 ?_
            refine v_istore X (pc := 1017) (lv' := [(29, _), (28, _), (32, _), (31, _), (0, _), (1, _), (2, _), (3, _), (4, _), (5, _), (7, _), (25, _), (26, _), (27, _), (30, _)]) eL_law_1017 (Nat.le_of_ble_eq_true rfl) rfl ?_
            exact v_sub [4, 5, 6, 7, 8, 9, 10, 11, 12, 13, 1, 0, 14] rfl (cL_law_1019 X hr hk hk44 ih _ _ _ _ _ _ _ _ _ _ _  h)
          · exact v_sub [3, 4, 5, 6, 7, 8, 9, 10, 11, 12, 0, 13, 14] rfl (cL_law_1019 X hr hk hk44 ih _ _ _ _ _ _ _ _ _ _ _  h)
        · refine v_iconst X (pc := 993) (v := (0 : Int32)) eL_law_993 (by decide) ?_
          exact absurd (Prod.mk.inj (Option.some.inj h)).1 (by decide)
    · refine v_iload X (pc := 1035) 11 rfl eL_law_1035 ?_
      refine v_iload X (pc := 1037) 8 rfl eL_law_1037 ?_
      refine v_icmp_ne X (pc := 1039) (tgt := 1071) h eL_law_1039 (by decide) (fun h => ?_) (fun h => ?_)
      · refine v_aload_n X (pc := 1042) 1 rfl eL_law_1042 rfl ?_
        obtain ⟨r5, m5, hc5, h⟩ := bd_some h
        refine v_callV X (pc := 1043) [] [] ok_V_L_117 (cW_undo  hc5) rfl (Nat.le_of_ble_eq_true rfl) ⟨Nat.le_of_ble_eq_true rfl, Nat.le_of_ble_eq_true rfl⟩ ⟨Nat.le_of_ble_eq_true rfl, Nat.le_of_ble_eq_true rfl⟩ (by decide) (by decide) rfl rfl eL_law_1043 ?_
        refine v_iload_n X (pc := 1046) 3 rfl eL_law_1046 rfl ?_
        refine v_icmp_ne X (pc := 1047) (tgt := 1071) h eL_law_1047 (by decide) (fun h => ?_) (fun h => ?_)
        · refine v_aload_n X (pc := 1050) 1 rfl eL_law_1050 rfl ?_
          refine v_iload X (pc := 1051) 6 rfl eL_law_1051 ?_
          refine v_iload X (pc := 1053) 7 rfl eL_law_1053 ?_
          obtain ⟨r6, m6, hc6, h⟩ := bd_some h
          refine v_callV X (pc := 1055) [_, _] [] ok_V_L_128 (cW_speak  hc6) rfl (Nat.le_of_ble_eq_true rfl) ⟨Nat.le_of_ble_eq_true rfl, Nat.le_of_ble_eq_true rfl⟩ ⟨Nat.le_of_ble_eq_true rfl, Nat.le_of_ble_eq_true rfl⟩ (by decide) (by decide) rfl rfl eL_law_1055 ?_
          refine v_iload X (pc := 1058) 10 rfl eL_law_1058 ?_
          refine v_icmp_ne X (pc := 1060) (tgt := 1071) h eL_law_1060 (by decide) (fun h => ?_) (fun h => ?_)
          · refine v_aload_n X (pc := 1063) 1 rfl eL_law_1063 rfl ?_
            obtain ⟨r7, m7, hc7, h⟩ := bd_some h
            refine v_callV X (pc := 1064) [] [] ok_V_L_117 (cW_undo  hc7) rfl (Nat.le_of_ble_eq_true rfl) ⟨Nat.le_of_ble_eq_true rfl, Nat.le_of_ble_eq_true rfl⟩ ⟨Nat.le_of_ble_eq_true rfl, Nat.le_of_ble_eq_true rfl⟩ (by decide) (by decide) rfl rfl eL_law_1064 ?_
            refine v_iload_n X (pc := 1067) 3 rfl eL_law_1067 rfl ?_
            refine v_icmp_eq X (pc := 1068) (tgt := 1073) h eL_law_1068 (by decide) (fun h => ?_) (fun h => ?_)
            · refine v_aload_n X (pc := 1073) 1 rfl eL_law_1073 rfl ?_
              refine v_iload X (pc := 1074) 9 rfl eL_law_1074 ?_
              refine v_iload X (pc := 1076) 7 rfl eL_law_1076 ?_
              obtain ⟨r8, m8, hc8, h⟩ := bd_some h
              refine v_callV X (pc := 1078) [_, _] [] ok_V_L_128 (cW_speak  hc8) rfl (Nat.le_of_ble_eq_true rfl) ⟨Nat.le_of_ble_eq_true rfl, Nat.le_of_ble_eq_true rfl⟩ ⟨Nat.le_of_ble_eq_true rfl, Nat.le_of_ble_eq_true rfl⟩ (by decide) (by decide) rfl rfl eL_law_1078 ?_
              refine v_istore X (pc := 1081) (lv' := [(30, _), (0, _), (1, _), (2, _), (3, _), (4, _), (5, _), (7, _), (25, _), (26, _), (27, _), (28, _), (29, _)]) eL_law_1081 (Nat.le_of_ble_eq_true rfl) rfl ?_
              refine v_iload X (pc := 1083) 0 rfl eL_law_1083 ?_
              refine v_iload X (pc := 1085) 11 rfl eL_law_1085 ?_
              refine v_icmp_gt X (pc := 1087) (tgt := 1120) h eL_law_1087 (by decide) (fun h => ?_) (fun h => ?_)
              · refine v_iconst X (pc := 1120) (v := (0 : Int32)) eL_law_1120 (by decide) ?_
                exact absurd (Prod.mk.inj (Option.some.inj h)).1 (by decide)
              · refine v_iload X (pc := 1090) 0 rfl eL_law_1090 ?_
                refine v_iload X (pc := 1092) 11 rfl eL_law_1092 ?_
                refine v_icmp_ne X (pc := 1094) (tgt := 1104) h eL_law_1094 (by decide) (fun h => ?_) (fun h => ?_)
                · refine v_iload X (pc := 1097) 10 rfl eL_law_1097 ?_
                  refine v_iload X (pc := 1099) 7 rfl eL_law_1099 ?_
                  refine v_icmp_gt X (pc := 1101) (tgt := 1120) h eL_law_1101 (by decide) (fun h => ?_) (fun h => ?_)
                  · refine v_iconst X (pc := 1120) (v := (0 : Int32)) eL_law_1120 (by decide) ?_
                    exact absurd (Prod.mk.inj (Option.some.inj h)).1 (by decide)
                  · exact v_sub [1, 2, 3, 4, 5, 6] rfl (cL_law_1104 X hr hk hk44 _ _ _ _  h)
                · exact v_sub [1, 2, 3, 4, 5, 6] rfl (cL_law_1104 X hr hk hk44 _ _ _ _  h)
            · refine v_iconst X (pc := 1071) (v := (0 : Int32)) eL_law_1071 (by decide) ?_
              exact absurd (Prod.mk.inj (Option.some.inj h)).1 (by decide)
          · refine v_iconst X (pc := 1071) (v := (0 : Int32)) eL_law_1071 (by decide) ?_
            exact absurd (Prod.mk.inj (Option.some.inj h)).1 (by decide)
        · refine v_iconst X (pc := 1071) (v := (0 : Int32)) eL_law_1071 (by decide) ?_
          exact absurd (Prod.mk.inj (Option.some.inj h)).1 (by decide)
      · refine v_iconst X (pc := 1071) (v := (0 : Int32)) eL_law_1071 (by decide) ?_
        exact absurd (Prod.mk.inj (Option.some.inj h)).1 (by decide)
set_option maxHeartbeats 4000000 in
set_option maxRecDepth 100000 in
theorem cL_law_834 {p : Program} {l : Launch} {e : Env} {s : State} {m : MethodId} {b : Nat} {below : List Frame} {meth : Method} {c : Code} {k : KK} {f : Nat} {mem' : Mem} (X : CX p s m #[Value.ref b] meth c k code 33 "WallShiftsLaw") (hr : meth.sig.returnType = ret) (hk : kh k = s.heap.size) {k44 : Int32 → Int32 → Int32 → Mem → Option (Int32 × Mem)} (hk44 : ∀ (x3 : Int32) (x4 : Int32) (x5 : Int32) (mem : Mem), k44 x3 x4 x5 mem = some ((1 : Int32), mem') → V p l e room_1 s m #[Value.ref b] below meth c 600000 7302250 (lw_Z below #[Value.ref b] s) k 33 mem 44 [(0, aR 24 0), (1, aR 0 0), (2, aR 13 0), (3, aI x3), (4, aI x4), (5, aI x5)] []) : ∀ (n : Nat) (x3 : Int32) (x4 : Int32) (x5 : Int32) (x6 : Int32) (x7 : Int32) (x12 : Int32) (x17 : Int32) (x23 : Int32) (x24 : Int32) (x25 : Int32) (mem : Mem), dL_law_834 (kL k) (kx k) f k44 n x3 x4 x5 x6 x7 x12 x17 x23 x24 x25 mem = some ((1 : Int32), mem') → V p l e room_1 s m #[Value.ref b] below meth c 600000 7302250 (lw_Z below #[Value.ref b] s) k 33 mem 834 [(0, aR 24 0), (1, aR 0 0), (2, aR 13 0), (3, aI x3), (4, aI x4), (5, aI x5), (6, aI x6), (7, aI x7), (12, aI x12), (17, aI x17), (23, aI x23), (24, aI x24), (25, aI x25)] [] := by
  intro n
  induction n with
  | zero =>
    intro x3 x4 x5 x6 x7 x12 x17 x23 x24 x25 mem  h
    exact nomatch (show (none : Option (Int32 × Mem)) = some _ from h)
  | succ n ih =>
    intro x3 x4 x5 x6 x7 x12 x17 x23 x24 x25 mem  h
    rw [dL_law_834] at h
    refine v_iload X (pc := 834) 12 rfl eL_law_834 ?_
    refine v_iconst X (pc := 836) (v := (4 : Int32)) eL_law_836 (by decide) ?_
    refine v_icmp_ge X (pc := 837) (tgt := 893) h eL_law_837 (by decide) (fun h => ?_) (fun h => ?_)
    · refine v_aload_n X (pc := 840) 1 rfl eL_law_840 rfl ?_
      refine v_iload X (pc := 841) 11 rfl eL_law_841 ?_
      refine v_iconst X (pc := 843) (v := (3 : Int32)) eL_law_843 (by decide) ?_
      refine v_iload X (pc := 844) 12 rfl eL_law_844 ?_
      obtain ⟨r1, m1, hc1, h⟩ := bd_some h
      refine v_callV X (pc := 846) [_, _, _] [] ok_V_L_62 (cW_set  hc1) rfl (Nat.le_of_ble_eq_true rfl) ⟨Nat.le_of_ble_eq_true rfl, Nat.le_of_ble_eq_true rfl⟩ ⟨Nat.le_of_ble_eq_true rfl, Nat.le_of_ble_eq_true rfl⟩ (by decide) (by decide) rfl rfl eL_law_846 ?_
      refine v_if_ge X (pc := 849) (tgt := 854) h eL_law_849 (by decide) (fun h => ?_) (fun h => ?_)
      · refine v_iconst X (pc := 852) (v := (0 : Int32)) eL_law_852 (by decide) ?_
        exact absurd (Prod.mk.inj (Option.some.inj h)).1 (by decide)
      · refine v_aload_n X (pc := 854) 1 rfl eL_law_854 rfl ?_
        refine v_iload X (pc := 855) 7 rfl eL_law_855 ?_
        refine v_iload X (pc := 857) 8 rfl eL_law_857 ?_
        obtain ⟨r2, m2, hc2, h⟩ := bd_some h
        refine v_callV X (pc := 859) [_, _] [] ok_V_L_98 (cW_quiet  hc2) rfl (Nat.le_of_ble_eq_true rfl) ⟨Nat.le_of_ble_eq_true rfl, Nat.le_of_ble_eq_true rfl⟩ ⟨Nat.le_of_ble_eq_true rfl, Nat.le_of_ble_eq_true rfl⟩ (by decide) (by decide) rfl rfl eL_law_859 ?_
        refine v_istore X (pc := 862) (lv' := [(26, _), (0, _), (1, _), (2, _), (3, _), (4, _), (5, _), (6, _), (7, _), (12, _), (17, _), (23, _), (24, _), (25, _)]) eL_law_862 (Nat.le_of_ble_eq_true rfl) rfl ?_
        refine v_iload X (pc := 864) 0 rfl eL_law_864 ?_
        refine v_iload X (pc := 866) 11 rfl eL_law_866 ?_
        refine v_icmp_lt X (pc := 868) (tgt := 885) h eL_law_868 (by decide) (fun h => ?_) (fun h => ?_)
        · refine v_iconst X (pc := 885) (v := (0 : Int32)) eL_law_885 (by decide) ?_
          exact absurd (Prod.mk.inj (Option.some.inj h)).1 (by decide)
        · refine v_iload X (pc := 871) 13 rfl eL_law_871 ?_
          refine v_iload X (pc := 873) 10 rfl eL_law_873 ?_
          refine v_icmp_ge X (pc := 875) (tgt := 887) h eL_law_875 (by decide) (fun h => ?_) (fun h => ?_)
          · refine v_iload X (pc := 878) 0 rfl eL_law_878 ?_
            refine v_iload X (pc := 880) 11 rfl eL_law_880 ?_
            refine v_icmp_ne X (pc := 882) (tgt := 887) h eL_law_882 (by decide) (fun h => ?_) (fun h => ?_)
            · refine v_iconst X (pc := 885) (v := (0 : Int32)) eL_law_885 (by decide) ?_
              exact absurd (Prod.mk.inj (Option.some.inj h)).1 (by decide)
            · refine v_iinc X (pc := 887) (v := (x25 + (1 : Int32))) (lv' := [(25, _), (26, _), (0, _), (1, _), (2, _), (3, _), (4, _), (5, _), (6, _), (7, _), (12, _), (17, _), (23, _), (24, _)]) 13 rfl (by rfl) eL_law_887 (Nat.le_of_ble_eq_true rfl) rfl ?_
              refine v_goto X (pc := 890) (tgt := 834) eL_law_890 (by decide) ?_
              exact v_sub [2, 3, 4, 5, 6, 7, 8, 9, 10, 11, 12, 13, 0] rfl (ih _ _ _ _ _ _ _ _ _ _ _  h)
          · refine v_iinc X (pc := 887) (v := (x25 + (1 : Int32))) (lv' := [(25, _), (26, _), (0, _), (1, _), (2, _), (3, _), (4, _), (5, _), (6, _), (7, _), (12, _), (17, _), (23, _), (24, _)]) 13 rfl (by rfl) eL_law_887 (Nat.le_of_ble_eq_true rfl) rfl ?_
            refine v_goto X (pc := 890) (tgt := 834) eL_law_890 (by decide) ?_
            exact v_sub [2, 3, 4, 5, 6, 7, 8, 9, 10, 11, 12, 13, 0] rfl (ih _ _ _ _ _ _ _ _ _ _ _  h)
    · refine v_aload_n X (pc := 893) 1 rfl eL_law_893 rfl ?_
      obtain ⟨r3, m3, hc3, h⟩ := bd_some h
      refine v_callV X (pc := 894) [] [] ok_V_L_117 (cW_undo  hc3) rfl (Nat.le_of_ble_eq_true rfl) ⟨Nat.le_of_ble_eq_true rfl, Nat.le_of_ble_eq_true rfl⟩ ⟨Nat.le_of_ble_eq_true rfl, Nat.le_of_ble_eq_true rfl⟩ (by decide) (by decide) rfl rfl eL_law_894 ?_
      refine v_iload_n X (pc := 897) 3 rfl eL_law_897 rfl ?_
      refine v_icmp_eq X (pc := 898) (tgt := 903) h eL_law_898 (by decide) (fun h => ?_) (fun h => ?_)
      · refine v_iload X (pc := 903) 6 rfl eL_law_903 ?_
        refine v_bipush X (pc := 905) (v := (29 : Int32)) eL_law_905 (by decide) ?_
        refine v_imul X (pc := 907) eL_law_907 ?_
        refine v_ldc X (pc := 908) qw_359 eL_law_908 ?_
        obtain ⟨r4, m4, hc4, h⟩ := bd_some h
        refine v_callS X (pc := 910) [_, _] [] ok_S_L_52 (cL_mod  hc4) rfl (Nat.le_of_ble_eq_true rfl) ⟨Nat.le_of_ble_eq_true rfl, Nat.le_of_ble_eq_true rfl⟩ ⟨Nat.le_of_ble_eq_true rfl, Nat.le_of_ble_eq_true rfl⟩ eL_law_910 ?_
        refine v_istore X (pc := 913) (lv' := [(25, _), (0, _), (1, _), (2, _), (3, _), (4, _), (5, _), (6, _), (7, _), (12, _), (17, _), (23, _), (24, _)]) eL_law_913 (Nat.le_of_ble_eq_true rfl) rfl ?_
        refine v_aload_n X (pc := 915) 2 rfl eL_law_915 rfl ?_
        refine v_iload X (pc := 916) 8 rfl eL_law_916 ?_
        refine v_iload X (pc := 918) 0 rfl eL_law_918 ?_
        obtain ⟨r5, m5, hc5, h⟩ := bd_some h
        refine v_callV X (pc := 920) [_, _] [] ok_V_L_120 (cW_lost  hc5) rfl (Nat.le_of_ble_eq_true rfl) ⟨Nat.le_of_ble_eq_true rfl, Nat.le_of_ble_eq_true rfl⟩ ⟨Nat.le_of_ble_eq_true rfl, Nat.le_of_ble_eq_true rfl⟩ (by decide) (by decide) rfl rfl eL_law_920 ?_
        refine v_istore X (pc := 923) (lv' := [(26, _), (25, _), (0, _), (1, _), (2, _), (3, _), (4, _), (5, _), (6, _), (7, _), (12, _), (17, _), (23, _), (24, _)]) eL_law_923 (Nat.le_of_ble_eq_true rfl) rfl ?_
        refine v_aload_n X (pc := 925) 3 rfl eL_law_925 rfl ?_
        refine v_iload X (pc := 926) 1 rfl eL_law_926 ?_
        obtain ⟨r6, m6, hc6, h⟩ := bd_some h
        refine v_callV X (pc := 928) [_] [] ok_V_L_123 (cW_best  hc6) rfl (Nat.le_of_ble_eq_true rfl) ⟨Nat.le_of_ble_eq_true rfl, Nat.le_of_ble_eq_true rfl⟩ ⟨Nat.le_of_ble_eq_true rfl, Nat.le_of_ble_eq_true rfl⟩ (by decide) (by decide) rfl rfl eL_law_928 ?_
        refine v_istore X (pc := 931) (lv' := [(27, _), (26, _), (25, _), (0, _), (1, _), (2, _), (3, _), (4, _), (5, _), (6, _), (7, _), (12, _), (17, _), (23, _), (24, _)]) eL_law_931 (Nat.le_of_ble_eq_true rfl) rfl ?_
        refine v_iconst X (pc := 933) (v := (0 : Int32)) eL_law_933 (by decide) ?_
        refine v_istore X (pc := 934) (lv' := [(28, _), (27, _), (26, _), (25, _), (0, _), (1, _), (2, _), (3, _), (4, _), (5, _), (6, _), (7, _), (12, _), (17, _), (23, _), (24, _)]) eL_law_934 (Nat.le_of_ble_eq_true rfl) rfl ?_
        refine v_iconst X (pc := 936) (v := (0 : Int32)) eL_law_936 (by decide) ?_
        refine v_istore X (pc := 937) (lv' := [(29, _), (28, _), (27, _), (26, _), (25, _), (0, _), (1, _), (2, _), (3, _), (4, _), (5, _), (6, _), (7, _), (12, _), (17, _), (23, _), (24, _)]) eL_law_937 (Nat.le_of_ble_eq_true rfl) rfl ?_
        refine v_iconst X (pc := 939) (v := (0 : Int32)) eL_law_939 (by decide) ?_
        refine v_istore X (pc := 940) (lv' := [(30, _), (29, _), (28, _), (27, _), (26, _), (25, _), (0, _), (1, _), (2, _), (3, _), (4, _), (5, _), (6, _), (7, _), (12, _), (17, _), (23, _), (24, _)]) eL_law_940 (Nat.le_of_ble_eq_true rfl) rfl ?_
        exact v_sub [6, 7, 8, 9, 10, 11, 13, 5, 4, 3, 2, 1, 0] rfl (cL_law_942 X hr hk hk44 _ _ _ _ _ _ _ _ _ _ _ _  h)
      · refine v_iconst X (pc := 901) (v := (0 : Int32)) eL_law_901 (by decide) ?_
        exact absurd (Prod.mk.inj (Option.some.inj h)).1 (by decide)
set_option maxHeartbeats 4000000 in
set_option maxRecDepth 100000 in
theorem cL_law_692 {p : Program} {l : Launch} {e : Env} {s : State} {m : MethodId} {b : Nat} {below : List Frame} {meth : Method} {c : Code} {k : KK} {f : Nat} {mem' : Mem} (X : CX p s m #[Value.ref b] meth c k code 33 "WallShiftsLaw") (hr : meth.sig.returnType = ret) (hk : kh k = s.heap.size) {k44 : Int32 → Int32 → Int32 → Mem → Option (Int32 × Mem)} (hk44 : ∀ (x3 : Int32) (x4 : Int32) (x5 : Int32) (mem : Mem), k44 x3 x4 x5 mem = some ((1 : Int32), mem') → V p l e room_1 s m #[Value.ref b] below meth c 600000 7302250 (lw_Z below #[Value.ref b] s) k 33 mem 44 [(0, aR 24 0), (1, aR 0 0), (2, aR 13 0), (3, aI x3), (4, aI x4), (5, aI x5)] []) : ∀ (n : Nat) (x3 : Int32) (x4 : Int32) (x5 : Int32) (x6 : Int32) (x7 : Int32) (x12 : Int32) (x16 : Int32) (x17 : Int32) (x23 : Int32) (x24 : Int32) (mem : Mem), dL_law_692 (kL k) (kx k) f k44 n x3 x4 x5 x6 x7 x12 x16 x17 x23 x24 mem = some ((1 : Int32), mem') → V p l e room_1 s m #[Value.ref b] below meth c 600000 7302250 (lw_Z below #[Value.ref b] s) k 33 mem 692 [(0, aR 24 0), (1, aR 0 0), (2, aR 13 0), (3, aI x3), (4, aI x4), (5, aI x5), (6, aI x6), (7, aI x7), (12, aI x12), (16, aI x16), (17, aI x17), (23, aI x23), (24, aI x24)] [] := by
  intro n
  induction n with
  | zero =>
    intro x3 x4 x5 x6 x7 x12 x16 x17 x23 x24 mem  h
    exact nomatch (show (none : Option (Int32 × Mem)) = some _ from h)
  | succ n ih =>
    intro x3 x4 x5 x6 x7 x12 x16 x17 x23 x24 mem  h
    rw [dL_law_692] at h
    refine v_iload X (pc := 692) 12 rfl eL_law_692 ?_
    refine v_bipush X (pc := 694) (v := (6 : Int32)) eL_law_694 (by decide) ?_
    refine v_icmp_ge X (pc := 696) (tgt := 767) h eL_law_696 (by decide) (fun h => ?_) (fun h => ?_)
    · refine v_iconst X (pc := 699) (v := (1 : Int32)) eL_law_699 (by decide) ?_
      refine v_iload X (pc := 700) 6 rfl eL_law_700 ?_
      refine v_iconst X (pc := 702) (v := (3 : Int32)) eL_law_702 (by decide) ?_
      refine v_iload X (pc := 703) 12 rfl eL_law_703 ?_
      refine v_imul X (pc := 705) eL_law_705 ?_
      refine v_ishr X (pc := 706) eL_law_706 ?_
      refine v_bipush X (pc := 707) (v := (60 : Int32)) eL_law_707 (by decide) ?_
      obtain ⟨r1, m1, hc1, h⟩ := bd_some h
      refine v_callS X (pc := 709) [_, _] [_] ok_S_L_52 (cL_mod  hc1) rfl (Nat.le_of_ble_eq_true rfl) ⟨Nat.le_of_ble_eq_true rfl, Nat.le_of_ble_eq_true rfl⟩ ⟨Nat.le_of_ble_eq_true rfl, Nat.le_of_ble_eq_true rfl⟩ eL_law_709 ?_
      refine v_iadd X (pc := 712) eL_law_712 ?_
      refine v_istore X (pc := 713) (lv' := [(25, _), (0, _), (1, _), (2, _), (3, _), (4, _), (5, _), (6, _), (7, _), (12, _), (16, _), (17, _), (23, _), (24, _)]) eL_law_713 (Nat.le_of_ble_eq_true rfl) rfl ?_
      refine v_aload_n X (pc := 715) 2 rfl eL_law_715 rfl ?_
      refine v_iconst X (pc := 716) (v := (0 : Int32)) eL_law_716 (by decide) ?_
      refine v_iload X (pc := 717) 0 rfl eL_law_717 ?_
      obtain ⟨r2, m2, hc2, h⟩ := bd_some h
      refine v_callV X (pc := 719) [_, _] [] ok_V_L_56 (cW_rota  hc2) rfl (Nat.le_of_ble_eq_true rfl) ⟨Nat.le_of_ble_eq_true rfl, Nat.le_of_ble_eq_true rfl⟩ ⟨Nat.le_of_ble_eq_true rfl, Nat.le_of_ble_eq_true rfl⟩ (by decide) (by decide) rfl rfl eL_law_719 ?_
      refine v_iconst X (pc := 722) (v := (1 : Int32)) eL_law_722 (by decide) ?_
      refine v_icmp_ge X (pc := 723) (tgt := 728) h eL_law_723 (by decide) (fun h => ?_) (fun h => ?_)
      · refine v_iconst X (pc := 726) (v := (0 : Int32)) eL_law_726 (by decide) ?_
        exact absurd (Prod.mk.inj (Option.some.inj h)).1 (by decide)
      · refine v_aload_n X (pc := 728) 2 rfl eL_law_728 rfl ?_
        refine v_iload X (pc := 729) 8 rfl eL_law_729 ?_
        refine v_iload X (pc := 731) 9 rfl eL_law_731 ?_
        obtain ⟨r3, m3, hc3, h⟩ := bd_some h
        refine v_callV X (pc := 733) [_, _] [] ok_V_L_98 (cW_quiet  hc3) rfl (Nat.le_of_ble_eq_true rfl) ⟨Nat.le_of_ble_eq_true rfl, Nat.le_of_ble_eq_true rfl⟩ ⟨Nat.le_of_ble_eq_true rfl, Nat.le_of_ble_eq_true rfl⟩ (by decide) (by decide) rfl rfl eL_law_733 ?_
        refine v_istore X (pc := 736) (lv' := [(26, _), (25, _), (0, _), (1, _), (2, _), (3, _), (4, _), (5, _), (6, _), (7, _), (12, _), (16, _), (17, _), (23, _), (24, _)]) eL_law_736 (Nat.le_of_ble_eq_true rfl) rfl ?_
        refine v_iload X (pc := 738) 0 rfl eL_law_738 ?_
        refine v_iload X (pc := 740) 13 rfl eL_law_740 ?_
        refine v_icmp_lt X (pc := 742) (tgt := 759) h eL_law_742 (by decide) (fun h => ?_) (fun h => ?_)
        · refine v_iconst X (pc := 759) (v := (0 : Int32)) eL_law_759 (by decide) ?_
          exact absurd (Prod.mk.inj (Option.some.inj h)).1 (by decide)
        · refine v_iload X (pc := 745) 1 rfl eL_law_745 ?_
          refine v_iload X (pc := 747) 11 rfl eL_law_747 ?_
          refine v_icmp_ge X (pc := 749) (tgt := 761) h eL_law_749 (by decide) (fun h => ?_) (fun h => ?_)
          · refine v_iload X (pc := 752) 0 rfl eL_law_752 ?_
            refine v_iload X (pc := 754) 13 rfl eL_law_754 ?_
            refine v_icmp_ne X (pc := 756) (tgt := 761) h eL_law_756 (by decide) (fun h => ?_) (fun h => ?_)
            · refine v_iconst X (pc := 759) (v := (0 : Int32)) eL_law_759 (by decide) ?_
              exact absurd (Prod.mk.inj (Option.some.inj h)).1 (by decide)
            · refine v_iinc X (pc := 761) (v := (x24 + (1 : Int32))) (lv' := [(24, _), (26, _), (25, _), (0, _), (1, _), (2, _), (3, _), (4, _), (5, _), (6, _), (7, _), (12, _), (16, _), (17, _), (23, _)]) 14 rfl (by rfl) eL_law_761 (Nat.le_of_ble_eq_true rfl) rfl ?_
              refine v_goto X (pc := 764) (tgt := 692) eL_law_764 (by decide) ?_
              exact v_sub [3, 4, 5, 6, 7, 8, 9, 10, 11, 12, 13, 14, 0] rfl (ih _ _ _ _ _ _ _ _ _ _ _  h)
          · refine v_iinc X (pc := 761) (v := (x24 + (1 : Int32))) (lv' := [(24, _), (26, _), (25, _), (0, _), (1, _), (2, _), (3, _), (4, _), (5, _), (6, _), (7, _), (12, _), (16, _), (17, _), (23, _)]) 14 rfl (by rfl) eL_law_761 (Nat.le_of_ble_eq_true rfl) rfl ?_
            refine v_goto X (pc := 764) (tgt := 692) eL_law_764 (by decide) ?_
            exact v_sub [3, 4, 5, 6, 7, 8, 9, 10, 11, 12, 13, 14, 0] rfl (ih _ _ _ _ _ _ _ _ _ _ _  h)
    · refine v_iload X (pc := 767) 6 rfl eL_law_767 ?_
      refine v_bipush X (pc := 769) (v := (14 : Int32)) eL_law_769 (by decide) ?_
      refine v_ishr X (pc := 771) eL_law_771 ?_
      refine v_iload_n X (pc := 772) 3 rfl eL_law_772 rfl ?_
      obtain ⟨r4, m4, hc4, h⟩ := bd_some h
      refine v_callS X (pc := 773) [_, _] [] ok_S_L_52 (cL_mod  hc4) rfl (Nat.le_of_ble_eq_true rfl) ⟨Nat.le_of_ble_eq_true rfl, Nat.le_of_ble_eq_true rfl⟩ ⟨Nat.le_of_ble_eq_true rfl, Nat.le_of_ble_eq_true rfl⟩ eL_law_773 ?_
      refine v_istore X (pc := 776) (lv' := [(24, _), (0, _), (1, _), (2, _), (3, _), (4, _), (5, _), (6, _), (7, _), (12, _), (16, _), (17, _), (23, _)]) eL_law_776 (Nat.le_of_ble_eq_true rfl) rfl ?_
      refine v_aload_n X (pc := 778) 2 rfl eL_law_778 rfl ?_
      obtain ⟨r5, m5, hc5, h⟩ := bd_some h
      refine v_callV X (pc := 779) [] [] ok_V_L_117 (cW_undo  hc5) rfl (Nat.le_of_ble_eq_true rfl) ⟨Nat.le_of_ble_eq_true rfl, Nat.le_of_ble_eq_true rfl⟩ ⟨Nat.le_of_ble_eq_true rfl, Nat.le_of_ble_eq_true rfl⟩ (by decide) (by decide) rfl rfl eL_law_779 ?_
      refine v_iload_n X (pc := 782) 4 rfl eL_law_782 rfl ?_
      refine v_icmp_ne X (pc := 783) (tgt := 819) h eL_law_783 (by decide) (fun h => ?_) (fun h => ?_)
      · refine v_iload X (pc := 786) 11 rfl eL_law_786 ?_
        refine v_if_lt X (pc := 788) (tgt := 819) h eL_law_788 (by decide) (fun h => ?_) (fun h => ?_)
        · refine v_iconst X (pc := 819) (v := (0 : Int32)) eL_law_819 (by decide) ?_
          exact absurd (Prod.mk.inj (Option.some.inj h)).1 (by decide)
        · refine v_iload X (pc := 791) 11 rfl eL_law_791 ?_
          refine v_iconst X (pc := 793) (v := (3 : Int32)) eL_law_793 (by decide) ?_
          refine v_icmp_gt X (pc := 794) (tgt := 819) h eL_law_794 (by decide) (fun h => ?_) (fun h => ?_)
          · refine v_iconst X (pc := 819) (v := (0 : Int32)) eL_law_819 (by decide) ?_
            exact absurd (Prod.mk.inj (Option.some.inj h)).1 (by decide)
          · refine v_aload_n X (pc := 797) 2 rfl eL_law_797 rfl ?_
            refine v_iload X (pc := 798) 0 rfl eL_law_798 ?_
            refine v_iconst X (pc := 800) (v := (3 : Int32)) eL_law_800 (by decide) ?_
            refine v_iload X (pc := 801) 11 rfl eL_law_801 ?_
            obtain ⟨r6, m6, hc6, h⟩ := bd_some h
            refine v_callV X (pc := 803) [_, _, _] [] ok_V_L_62 (cW_set  hc6) rfl (Nat.le_of_ble_eq_true rfl) ⟨Nat.le_of_ble_eq_true rfl, Nat.le_of_ble_eq_true rfl⟩ ⟨Nat.le_of_ble_eq_true rfl, Nat.le_of_ble_eq_true rfl⟩ (by decide) (by decide) rfl rfl eL_law_803 ?_
            refine v_aload_n X (pc := 806) 3 rfl eL_law_806 rfl ?_
            refine v_bipush X (pc := 807) (v := (9 : Int32)) eL_law_807 (by decide) ?_
            refine v_bipush X (pc := 809) (v := (6 : Int32)) eL_law_809 (by decide) ?_
            refine v_iload X (pc := 811) 0 rfl eL_law_811 ?_
            refine v_imul X (pc := 813) eL_law_813 ?_
            refine v_iadd X (pc := 814) eL_law_814 ?_
            refine v_iald X (pc := 815) h (by decide) (by decide) rfl eL_law_815 (fun h => ?_)
            refine v_icmp_eq X (pc := 816) (tgt := 821) h eL_law_816 (by decide) (fun h => ?_) (fun h => ?_)
            · refine v_aload_n X (pc := 821) 2 rfl eL_law_821 rfl ?_
              refine v_iload X (pc := 822) 8 rfl eL_law_822 ?_
              refine v_iload X (pc := 824) 9 rfl eL_law_824 ?_
              obtain ⟨r7, m7, hc7, h⟩ := bd_some h
              refine v_callV X (pc := 826) [_, _] [] ok_V_L_98 (cW_quiet  hc7) rfl (Nat.le_of_ble_eq_true rfl) ⟨Nat.le_of_ble_eq_true rfl, Nat.le_of_ble_eq_true rfl⟩ ⟨Nat.le_of_ble_eq_true rfl, Nat.le_of_ble_eq_true rfl⟩ (by decide) (by decide) rfl rfl eL_law_826 ?_
              refine v_istore X (pc := 829) (lv' := [(23, _), (24, _), (0, _), (1, _), (2, _), (3, _), (4, _), (5, _), (6, _), (7, _), (12, _), (16, _), (17, _)]) eL_law_829 (Nat.le_of_ble_eq_true rfl) rfl ?_
              refine v_iconst X (pc := 831) (v := (0 : Int32)) eL_law_831 (by decide) ?_
              refine v_istore X (pc := 832) (lv' := [(25, _), (23, _), (24, _), (0, _), (1, _), (2, _), (3, _), (4, _), (5, _), (6, _), (7, _), (12, _), (16, _), (17, _)]) eL_law_832 (Nat.le_of_ble_eq_true rfl) rfl ?_
              exact v_sub [3, 4, 5, 6, 7, 8, 9, 10, 11, 13, 1, 2, 0] rfl (cL_law_834 X hr hk hk44 _ _ _ _ _ _ _ _ _ _ _ _  h)
            · refine v_iconst X (pc := 819) (v := (0 : Int32)) eL_law_819 (by decide) ?_
              exact absurd (Prod.mk.inj (Option.some.inj h)).1 (by decide)
      · refine v_iconst X (pc := 819) (v := (0 : Int32)) eL_law_819 (by decide) ?_
        exact absurd (Prod.mk.inj (Option.some.inj h)).1 (by decide)
set_option maxHeartbeats 4000000 in
set_option maxRecDepth 100000 in
theorem cL_law_651 {p : Program} {l : Launch} {e : Env} {s : State} {m : MethodId} {b : Nat} {below : List Frame} {meth : Method} {c : Code} {k : KK} {f : Nat} {mem' : Mem} (X : CX p s m #[Value.ref b] meth c k code 33 "WallShiftsLaw") (hr : meth.sig.returnType = ret) (hk : kh k = s.heap.size) {k44 : Int32 → Int32 → Int32 → Mem → Option (Int32 × Mem)} (hk44 : ∀ (x3 : Int32) (x4 : Int32) (x5 : Int32) (mem : Mem), k44 x3 x4 x5 mem = some ((1 : Int32), mem') → V p l e room_1 s m #[Value.ref b] below meth c 600000 7302250 (lw_Z below #[Value.ref b] s) k 33 mem 44 [(0, aR 24 0), (1, aR 0 0), (2, aR 13 0), (3, aI x3), (4, aI x4), (5, aI x5)] []) : ∀ (x3 : Int32) (x4 : Int32) (x5 : Int32) (x6 : Int32) (x7 : Int32) (x12 : Int32) (x16 : Int32) (x17 : Int32) (mem : Mem), dL_law_651 (kL k) (kx k) f k44 x3 x4 x5 x6 x7 x12 x16 x17 mem = some ((1 : Int32), mem') → V p l e room_1 s m #[Value.ref b] below meth c 600000 7302250 (lw_Z below #[Value.ref b] s) k 33 mem 651 [(0, aR 24 0), (1, aR 0 0), (2, aR 13 0), (3, aI x3), (4, aI x4), (5, aI x5), (6, aI x6), (7, aI x7), (12, aI x12), (16, aI x16), (17, aI x17)] [] := by
  intro x3 x4 x5 x6 x7 x12 x16 x17 mem  h
  unfold dL_law_651 at h
  refine v_iload X (pc := 651) 9 rfl eL_law_651 ?_
  refine v_iconst X (pc := 653) (v := (1 : Int32)) eL_law_653 (by decide) ?_
  refine v_icmp_lt X (pc := 654) (tgt := 677) h eL_law_654 (by decide) (fun h => ?_) (fun h => ?_)
  · refine v_iconst X (pc := 677) (v := (0 : Int32)) eL_law_677 (by decide) ?_
    exact absurd (Prod.mk.inj (Option.some.inj h)).1 (by decide)
  · refine v_iload X (pc := 657) 9 rfl eL_law_657 ?_
    refine v_bipush X (pc := 659) (v := (60 : Int32)) eL_law_659 (by decide) ?_
    refine v_icmp_gt X (pc := 661) (tgt := 677) h eL_law_661 (by decide) (fun h => ?_) (fun h => ?_)
    · refine v_iconst X (pc := 677) (v := (0 : Int32)) eL_law_677 (by decide) ?_
      exact absurd (Prod.mk.inj (Option.some.inj h)).1 (by decide)
    · refine v_aload_n X (pc := 664) 1 rfl eL_law_664 rfl ?_
      refine v_iconst X (pc := 665) (v := (0 : Int32)) eL_law_665 (by decide) ?_
      refine v_iload X (pc := 666) 9 rfl eL_law_666 ?_
      obtain ⟨r1, m1, hc1, h⟩ := bd_some h
      refine v_callV X (pc := 668) [_, _] [] ok_V_L_56 (cW_rota  hc1) rfl (Nat.le_of_ble_eq_true rfl) ⟨Nat.le_of_ble_eq_true rfl, Nat.le_of_ble_eq_true rfl⟩ ⟨Nat.le_of_ble_eq_true rfl, Nat.le_of_ble_eq_true rfl⟩ (by decide) (by decide) rfl rfl eL_law_668 ?_
      refine v_aload_n X (pc := 671) 2 rfl eL_law_671 rfl ?_
      refine v_iconst X (pc := 672) (v := (1 : Int32)) eL_law_672 (by decide) ?_
      refine v_ialdK X (pc := 673) (n := 66) 1 (by decide) (by decide) (by decide) (by decide) rfl eL_law_673 ?_
      refine v_icmp_eq X (pc := 674) (tgt := 679) h eL_law_674 (by decide) (fun h => ?_) (fun h => ?_)
      · refine v_aload_n X (pc := 679) 1 rfl eL_law_679 rfl ?_
        refine v_iload X (pc := 680) 7 rfl eL_law_680 ?_
        refine v_iload X (pc := 682) 8 rfl eL_law_682 ?_
        obtain ⟨r2, m2, hc2, h⟩ := bd_some h
        refine v_callV X (pc := 684) [_, _] [] ok_V_L_98 (cW_quiet  hc2) rfl (Nat.le_of_ble_eq_true rfl) ⟨Nat.le_of_ble_eq_true rfl, Nat.le_of_ble_eq_true rfl⟩ ⟨Nat.le_of_ble_eq_true rfl, Nat.le_of_ble_eq_true rfl⟩ (by decide) (by decide) rfl rfl eL_law_684 ?_
        refine v_istore X (pc := 687) (lv' := [(23, _), (0, _), (1, _), (2, _), (3, _), (4, _), (5, _), (6, _), (7, _), (12, _), (16, _), (17, _)]) eL_law_687 (Nat.le_of_ble_eq_true rfl) rfl ?_
        refine v_iconst X (pc := 689) (v := (0 : Int32)) eL_law_689 (by decide) ?_
        refine v_istore X (pc := 690) (lv' := [(24, _), (23, _), (0, _), (1, _), (2, _), (3, _), (4, _), (5, _), (6, _), (7, _), (12, _), (16, _), (17, _)]) eL_law_690 (Nat.le_of_ble_eq_true rfl) rfl ?_
        exact v_sub [2, 3, 4, 5, 6, 7, 8, 9, 10, 11, 12, 1, 0] rfl (cL_law_692 X hr hk hk44 _ _ _ _ _ _ _ _ _ _ _ _  h)
      · refine v_iconst X (pc := 677) (v := (0 : Int32)) eL_law_677 (by decide) ?_
        exact absurd (Prod.mk.inj (Option.some.inj h)).1 (by decide)
set_option maxHeartbeats 4000000 in
set_option maxRecDepth 100000 in
theorem cL_law_614 {p : Program} {l : Launch} {e : Env} {s : State} {m : MethodId} {b : Nat} {below : List Frame} {meth : Method} {c : Code} {k : KK} {f : Nat} {mem' : Mem} (X : CX p s m #[Value.ref b] meth c k code 33 "WallShiftsLaw") (hr : meth.sig.returnType = ret) (hk : kh k = s.heap.size) {k44 : Int32 → Int32 → Int32 → Mem → Option (Int32 × Mem)} (hk44 : ∀ (x3 : Int32) (x4 : Int32) (x5 : Int32) (mem : Mem), k44 x3 x4 x5 mem = some ((1 : Int32), mem') → V p l e room_1 s m #[Value.ref b] below meth c 600000 7302250 (lw_Z below #[Value.ref b] s) k 33 mem 44 [(0, aR 24 0), (1, aR 0 0), (2, aR 13 0), (3, aI x3), (4, aI x4), (5, aI x5)] []) {k556 : Int32 → Int32 → Int32 → Int32 → Int32 → Int32 → Int32 → Int32 → Int32 → Int32 → Mem → Option (Int32 × Mem)} (hk556 : ∀ (x3 : Int32) (x4 : Int32) (x5 : Int32) (x6 : Int32) (x7 : Int32) (x12 : Int32) (x15 : Int32) (x16 : Int32) (x17 : Int32) (x23 : Int32) (mem : Mem), k556 x3 x4 x5 x6 x7 x12 x15 x16 x17 x23 mem = some ((1 : Int32), mem') → V p l e room_1 s m #[Value.ref b] below meth c 600000 7302250 (lw_Z below #[Value.ref b] s) k 33 mem 556 [(0, aR 24 0), (1, aR 0 0), (2, aR 13 0), (3, aI x3), (4, aI x4), (5, aI x5), (6, aI x6), (7, aI x7), (12, aI x12), (15, aI x15), (16, aI x16), (17, aI x17), (23, aI x23)] []) {k586 : Int32 → Int32 → Int32 → Int32 → Int32 → Int32 → Int32 → Int32 → Int32 → Int32 → Int32 → Int32 → Mem → Option (Int32 × Mem)} (hk586 : ∀ (x3 : Int32) (x4 : Int32) (x5 : Int32) (x6 : Int32) (x7 : Int32) (x12 : Int32) (x15 : Int32) (x16 : Int32) (x17 : Int32) (x23 : Int32) (x24 : Int32) (x25 : Int32) (mem : Mem), k586 x3 x4 x5 x6 x7 x12 x15 x16 x17 x23 x24 x25 mem = some ((1 : Int32), mem') → V p l e room_1 s m #[Value.ref b] below meth c 600000 7302250 (lw_Z below #[Value.ref b] s) k 33 mem 586 [(0, aR 24 0), (1, aR 0 0), (2, aR 13 0), (3, aI x3), (4, aI x4), (5, aI x5), (6, aI x6), (7, aI x7), (12, aI x12), (15, aI x15), (16, aI x16), (17, aI x17), (23, aI x23), (24, aI x24), (25, aI x25)] []) : ∀ (x3 : Int32) (x4 : Int32) (x5 : Int32) (x6 : Int32) (x7 : Int32) (x12 : Int32) (x15 : Int32) (x16 : Int32) (x17 : Int32) (x23 : Int32) (x24 : Int32) (x25 : Int32) (mem : Mem), dL_law_614 (kL k) (kx k) f k44 k556 k586 x3 x4 x5 x6 x7 x12 x15 x16 x17 x23 x24 x25 mem = some ((1 : Int32), mem') → V p l e room_1 s m #[Value.ref b] below meth c 600000 7302250 (lw_Z below #[Value.ref b] s) k 33 mem 614 [(0, aR 24 0), (1, aR 0 0), (2, aR 13 0), (3, aI x3), (4, aI x4), (5, aI x5), (6, aI x6), (7, aI x7), (12, aI x12), (15, aI x15), (16, aI x16), (17, aI x17), (23, aI x23), (24, aI x24), (25, aI x25)] [] := by
  intro x3 x4 x5 x6 x7 x12 x15 x16 x17 x23 x24 x25 mem  h
  unfold dL_law_614 at h
  refine v_aload_n X (pc := 614) 1 rfl eL_law_614 rfl ?_
  refine v_iconst X (pc := 615) (v := (1 : Int32)) eL_law_615 (by decide) ?_
  obtain ⟨r1, m1, hc1, h⟩ := bd_some h
  refine v_callV X (pc := 616) [_] [] ok_V_L_66 (cW_pass  hc1) rfl (Nat.le_of_ble_eq_true rfl) ⟨Nat.le_of_ble_eq_true rfl, Nat.le_of_ble_eq_true rfl⟩ ⟨Nat.le_of_ble_eq_true rfl, Nat.le_of_ble_eq_true rfl⟩ (by decide) (by decide) rfl rfl eL_law_616 ?_
  refine v_if_ge X (pc := 619) (tgt := 624) h eL_law_619 (by decide) (fun h => ?_) (fun h => ?_)
  · refine v_iconst X (pc := 622) (v := (0 : Int32)) eL_law_622 (by decide) ?_
    exact absurd (Prod.mk.inj (Option.some.inj h)).1 (by decide)
  · refine v_iinc X (pc := 624) (v := (x25 + (1 : Int32))) (lv' := [(25, _), (0, _), (1, _), (2, _), (3, _), (4, _), (5, _), (6, _), (7, _), (12, _), (15, _), (16, _), (17, _), (23, _), (24, _)]) 14 rfl (by rfl) eL_law_624 (Nat.le_of_ble_eq_true rfl) rfl ?_
    refine v_goto X (pc := 627) (tgt := 586) eL_law_627 (by decide) ?_
    exact v_sub [1, 2, 3, 4, 5, 6, 7, 8, 9, 10, 11, 12, 13, 14, 0] rfl (hk586 _ _ _ _ _ _ _ _ _ _ _ _ _  h)
set_option maxHeartbeats 4000000 in
set_option maxRecDepth 100000 in
theorem cL_law_586 {p : Program} {l : Launch} {e : Env} {s : State} {m : MethodId} {b : Nat} {below : List Frame} {meth : Method} {c : Code} {k : KK} {f : Nat} {mem' : Mem} (X : CX p s m #[Value.ref b] meth c k code 33 "WallShiftsLaw") (hr : meth.sig.returnType = ret) (hk : kh k = s.heap.size) {k44 : Int32 → Int32 → Int32 → Mem → Option (Int32 × Mem)} (hk44 : ∀ (x3 : Int32) (x4 : Int32) (x5 : Int32) (mem : Mem), k44 x3 x4 x5 mem = some ((1 : Int32), mem') → V p l e room_1 s m #[Value.ref b] below meth c 600000 7302250 (lw_Z below #[Value.ref b] s) k 33 mem 44 [(0, aR 24 0), (1, aR 0 0), (2, aR 13 0), (3, aI x3), (4, aI x4), (5, aI x5)] []) {k556 : Int32 → Int32 → Int32 → Int32 → Int32 → Int32 → Int32 → Int32 → Int32 → Int32 → Mem → Option (Int32 × Mem)} (hk556 : ∀ (x3 : Int32) (x4 : Int32) (x5 : Int32) (x6 : Int32) (x7 : Int32) (x12 : Int32) (x15 : Int32) (x16 : Int32) (x17 : Int32) (x23 : Int32) (mem : Mem), k556 x3 x4 x5 x6 x7 x12 x15 x16 x17 x23 mem = some ((1 : Int32), mem') → V p l e room_1 s m #[Value.ref b] below meth c 600000 7302250 (lw_Z below #[Value.ref b] s) k 33 mem 556 [(0, aR 24 0), (1, aR 0 0), (2, aR 13 0), (3, aI x3), (4, aI x4), (5, aI x5), (6, aI x6), (7, aI x7), (12, aI x12), (15, aI x15), (16, aI x16), (17, aI x17), (23, aI x23)] []) : ∀ (n : Nat) (x3 : Int32) (x4 : Int32) (x5 : Int32) (x6 : Int32) (x7 : Int32) (x12 : Int32) (x15 : Int32) (x16 : Int32) (x17 : Int32) (x23 : Int32) (x24 : Int32) (x25 : Int32) (mem : Mem), dL_law_586 (kL k) (kx k) f k44 k556 n x3 x4 x5 x6 x7 x12 x15 x16 x17 x23 x24 x25 mem = some ((1 : Int32), mem') → V p l e room_1 s m #[Value.ref b] below meth c 600000 7302250 (lw_Z below #[Value.ref b] s) k 33 mem 586 [(0, aR 24 0), (1, aR 0 0), (2, aR 13 0), (3, aI x3), (4, aI x4), (5, aI x5), (6, aI x6), (7, aI x7), (12, aI x12), (15, aI x15), (16, aI x16), (17, aI x17), (23, aI x23), (24, aI x24), (25, aI x25)] [] := by
  intro n
  induction n with
  | zero =>
    intro x3 x4 x5 x6 x7 x12 x15 x16 x17 x23 x24 x25 mem  h
    exact nomatch (show (none : Option (Int32 × Mem)) = some _ from h)
  | succ n ih =>
    intro x3 x4 x5 x6 x7 x12 x15 x16 x17 x23 x24 x25 mem  h
    rw [dL_law_586] at h
    refine v_iload X (pc := 586) 14 rfl eL_law_586 ?_
    refine v_iload X (pc := 588) 8 rfl eL_law_588 ?_
    refine v_icmp_ge X (pc := 590) (tgt := 630) h eL_law_590 (by decide) (fun h => ?_) (fun h => ?_)
    · refine v_aload_n X (pc := 593) 1 rfl eL_law_593 rfl ?_
      refine v_iload X (pc := 594) 7 rfl eL_law_594 ?_
      refine v_iload X (pc := 596) 9 rfl eL_law_596 ?_
      refine v_iconst X (pc := 598) (v := (1 : Int32)) eL_law_598 (by decide) ?_
      refine v_iload X (pc := 599) 12 rfl eL_law_599 ?_
      refine v_ishl X (pc := 601) eL_law_601 ?_
      refine v_iconst X (pc := 602) (v := (-1 : Int32)) eL_law_602 (by decide) ?_
      refine v_ixor X (pc := 603) eL_law_603 ?_
      refine v_iand X (pc := 604) eL_law_604 ?_
      obtain ⟨r1, m1, hc1, h⟩ := bd_some h
      refine v_callS X (pc := 605) [_, _, _] [] ok_S_L_113 (cL_isUnheard  hc1) rfl (Nat.le_of_ble_eq_true rfl) ⟨Nat.le_of_ble_eq_true rfl, Nat.le_of_ble_eq_true rfl⟩ ⟨Nat.le_of_ble_eq_true rfl, Nat.le_of_ble_eq_true rfl⟩ eL_law_605 ?_
      refine v_if_eq X (pc := 608) (tgt := 614) h eL_law_608 (by decide) (fun h => ?_) (fun h => ?_)
      · exact v_sub [0, 1, 2, 3, 4, 5, 6, 7, 8, 9, 10, 11, 12, 13, 14] rfl (cL_law_614 X hr hk hk44 hk556 ih _ _ _ _ _ _ _ _ _ _ _ _ _  h)
      · refine v_iinc X (pc := 611) (v := (x24 + (1 : Int32))) (lv' := [(24, _), (0, _), (1, _), (2, _), (3, _), (4, _), (5, _), (6, _), (7, _), (12, _), (15, _), (16, _), (17, _), (23, _), (25, _)]) 13 rfl (by rfl) eL_law_611 (Nat.le_of_ble_eq_true rfl) rfl ?_
        exact v_sub [1, 2, 3, 4, 5, 6, 7, 8, 9, 10, 11, 12, 13, 0, 14] rfl (cL_law_614 X hr hk hk44 hk556 ih _ _ _ _ _ _ _ _ _ _ _ _ _  h)
    · refine v_iload X (pc := 630) 13 rfl eL_law_630 ?_
      refine v_if_eq X (pc := 632) (tgt := 643) h eL_law_632 (by decide) (fun h => ?_) (fun h => ?_)
      · refine v_iconst X (pc := 643) (v := (0 : Int32)) eL_law_643 (by decide) ?_
        exact absurd (Prod.mk.inj (Option.some.inj h)).1 (by decide)
      · refine v_aload_n X (pc := 635) 1 rfl eL_law_635 rfl ?_
        obtain ⟨r2, m2, hc2, h⟩ := bd_some h
        refine v_callV X (pc := 636) [] [] ok_V_L_117 (cW_undo  hc2) rfl (Nat.le_of_ble_eq_true rfl) ⟨Nat.le_of_ble_eq_true rfl, Nat.le_of_ble_eq_true rfl⟩ ⟨Nat.le_of_ble_eq_true rfl, Nat.le_of_ble_eq_true rfl⟩ (by decide) (by decide) rfl rfl eL_law_636 ?_
        refine v_iload_n X (pc := 639) 3 rfl eL_law_639 rfl ?_
        refine v_icmp_eq X (pc := 640) (tgt := 645) h eL_law_640 (by decide) (fun h => ?_) (fun h => ?_)
        · refine v_iinc X (pc := 645) (v := (x23 + (1 : Int32))) (lv' := [(23, _), (0, _), (1, _), (2, _), (3, _), (4, _), (5, _), (6, _), (7, _), (12, _), (15, _), (16, _), (17, _), (24, _), (25, _)]) 12 rfl (by rfl) eL_law_645 (Nat.le_of_ble_eq_true rfl) rfl ?_
          refine v_goto X (pc := 648) (tgt := 556) eL_law_648 (by decide) ?_
          exact v_sub [1, 2, 3, 4, 5, 6, 7, 8, 9, 10, 11, 12, 0] rfl (hk556 _ _ _ _ _ _ _ _ _ _ _  h)
        · refine v_iconst X (pc := 643) (v := (0 : Int32)) eL_law_643 (by decide) ?_
          exact absurd (Prod.mk.inj (Option.some.inj h)).1 (by decide)
set_option maxHeartbeats 4000000 in
set_option maxRecDepth 100000 in
theorem cL_law_556 {p : Program} {l : Launch} {e : Env} {s : State} {m : MethodId} {b : Nat} {below : List Frame} {meth : Method} {c : Code} {k : KK} {f : Nat} {mem' : Mem} (X : CX p s m #[Value.ref b] meth c k code 33 "WallShiftsLaw") (hr : meth.sig.returnType = ret) (hk : kh k = s.heap.size) {k44 : Int32 → Int32 → Int32 → Mem → Option (Int32 × Mem)} (hk44 : ∀ (x3 : Int32) (x4 : Int32) (x5 : Int32) (mem : Mem), k44 x3 x4 x5 mem = some ((1 : Int32), mem') → V p l e room_1 s m #[Value.ref b] below meth c 600000 7302250 (lw_Z below #[Value.ref b] s) k 33 mem 44 [(0, aR 24 0), (1, aR 0 0), (2, aR 13 0), (3, aI x3), (4, aI x4), (5, aI x5)] []) : ∀ (n : Nat) (x3 : Int32) (x4 : Int32) (x5 : Int32) (x6 : Int32) (x7 : Int32) (x12 : Int32) (x15 : Int32) (x16 : Int32) (x17 : Int32) (x23 : Int32) (mem : Mem), dL_law_556 (kL k) (kx k) f k44 n x3 x4 x5 x6 x7 x12 x15 x16 x17 x23 mem = some ((1 : Int32), mem') → V p l e room_1 s m #[Value.ref b] below meth c 600000 7302250 (lw_Z below #[Value.ref b] s) k 33 mem 556 [(0, aR 24 0), (1, aR 0 0), (2, aR 13 0), (3, aI x3), (4, aI x4), (5, aI x5), (6, aI x6), (7, aI x7), (12, aI x12), (15, aI x15), (16, aI x16), (17, aI x17), (23, aI x23)] [] := by
  intro n
  induction n with
  | zero =>
    intro x3 x4 x5 x6 x7 x12 x15 x16 x17 x23 mem  h
    exact nomatch (show (none : Option (Int32 × Mem)) = some _ from h)
  | succ n ih =>
    intro x3 x4 x5 x6 x7 x12 x15 x16 x17 x23 mem  h
    rw [dL_law_556] at h
    refine v_iload X (pc := 556) 12 rfl eL_law_556 ?_
    refine v_iload_n X (pc := 558) 3 rfl eL_law_558 rfl ?_
    refine v_icmp_ge X (pc := 559) (tgt := 651) h eL_law_559 (by decide) (fun h => ?_) (fun h => ?_)
    · refine v_iload X (pc := 562) 9 rfl eL_law_562 ?_
      refine v_if_lt X (pc := 564) (tgt := 651) h eL_law_564 (by decide) (fun h => ?_) (fun h => ?_)
      · exact v_sub [0, 1, 2, 3, 4, 5, 6, 7, 8, 10, 11] rfl (cL_law_651 X hr hk hk44 _ _ _ _ _ _ _ _ _  h)
      · refine v_iload X (pc := 567) 9 rfl eL_law_567 ?_
        refine v_iload X (pc := 569) 12 rfl eL_law_569 ?_
        refine v_ishr X (pc := 571) eL_law_571 ?_
        refine v_iconst X (pc := 572) (v := (1 : Int32)) eL_law_572 (by decide) ?_
        refine v_iand X (pc := 573) eL_law_573 ?_
        refine v_if_ne X (pc := 574) (tgt := 580) h eL_law_574 (by decide) (fun h => ?_) (fun h => ?_)
        · refine v_goto X (pc := 577) (tgt := 645) eL_law_577 (by decide) ?_
          refine v_iinc X (pc := 645) (v := (x23 + (1 : Int32))) (lv' := [(23, _), (0, _), (1, _), (2, _), (3, _), (4, _), (5, _), (6, _), (7, _), (12, _), (15, _), (16, _), (17, _)]) 12 rfl (by rfl) eL_law_645 (Nat.le_of_ble_eq_true rfl) rfl ?_
          refine v_goto X (pc := 648) (tgt := 556) eL_law_648 (by decide) ?_
          exact v_sub [1, 2, 3, 4, 5, 6, 7, 8, 9, 10, 11, 12, 0] rfl (ih _ _ _ _ _ _ _ _ _ _ _  h)
        · refine v_iconst X (pc := 580) (v := (0 : Int32)) eL_law_580 (by decide) ?_
          refine v_istore X (pc := 581) (lv' := [(24, _), (0, _), (1, _), (2, _), (3, _), (4, _), (5, _), (6, _), (7, _), (12, _), (15, _), (16, _), (17, _), (23, _)]) eL_law_581 (Nat.le_of_ble_eq_true rfl) rfl ?_
          refine v_iconst X (pc := 583) (v := (0 : Int32)) eL_law_583 (by decide) ?_
          refine v_istore X (pc := 584) (lv' := [(25, _), (24, _), (0, _), (1, _), (2, _), (3, _), (4, _), (5, _), (6, _), (7, _), (12, _), (15, _), (16, _), (17, _), (23, _)]) eL_law_584 (Nat.le_of_ble_eq_true rfl) rfl ?_
          exact v_sub [2, 3, 4, 5, 6, 7, 8, 9, 10, 11, 12, 13, 14, 1, 0] rfl (cL_law_586 X hr hk hk44 ih _ _ _ _ _ _ _ _ _ _ _ _ _ _  h)
    · exact v_sub [0, 1, 2, 3, 4, 5, 6, 7, 8, 10, 11] rfl (cL_law_651 X hr hk hk44 _ _ _ _ _ _ _ _ _  h)
set_option maxHeartbeats 4000000 in
set_option maxRecDepth 100000 in
theorem cL_law_533 {p : Program} {l : Launch} {e : Env} {s : State} {m : MethodId} {b : Nat} {below : List Frame} {meth : Method} {c : Code} {k : KK} {f : Nat} {mem' : Mem} (X : CX p s m #[Value.ref b] meth c k code 33 "WallShiftsLaw") (hr : meth.sig.returnType = ret) (hk : kh k = s.heap.size) {k44 : Int32 → Int32 → Int32 → Mem → Option (Int32 × Mem)} (hk44 : ∀ (x3 : Int32) (x4 : Int32) (x5 : Int32) (mem : Mem), k44 x3 x4 x5 mem = some ((1 : Int32), mem') → V p l e room_1 s m #[Value.ref b] below meth c 600000 7302250 (lw_Z below #[Value.ref b] s) k 33 mem 44 [(0, aR 24 0), (1, aR 0 0), (2, aR 13 0), (3, aI x3), (4, aI x4), (5, aI x5)] []) : ∀ (x3 : Int32) (x4 : Int32) (x5 : Int32) (x6 : Int32) (x7 : Int32) (x12 : Int32) (x15 : Int32) (x16 : Int32) (x17 : Int32) (mem : Mem), dL_law_533 (kL k) (kx k) f k44 x3 x4 x5 x6 x7 x12 x15 x16 x17 mem = some ((1 : Int32), mem') → V p l e room_1 s m #[Value.ref b] below meth c 600000 7302250 (lw_Z below #[Value.ref b] s) k 33 mem 533 [(0, aR 24 0), (1, aR 0 0), (2, aR 13 0), (3, aI x3), (4, aI x4), (5, aI x5), (6, aI x6), (7, aI x7), (12, aI x12), (15, aI x15), (16, aI x16), (17, aI x17)] [] := by
  intro x3 x4 x5 x6 x7 x12 x15 x16 x17 mem  h
  unfold dL_law_533 at h
  refine v_aload_n X (pc := 533) 1 rfl eL_law_533 rfl ?_
  obtain ⟨r1, m1, hc1, h⟩ := bd_some h
  refine v_callV X (pc := 534) [] [] ok_V_L_117 (cW_undo  hc1) rfl (Nat.le_of_ble_eq_true rfl) ⟨Nat.le_of_ble_eq_true rfl, Nat.le_of_ble_eq_true rfl⟩ ⟨Nat.le_of_ble_eq_true rfl, Nat.le_of_ble_eq_true rfl⟩ (by decide) (by decide) rfl rfl eL_law_534 ?_
  refine v_iload_n X (pc := 537) 3 rfl eL_law_537 rfl ?_
  refine v_icmp_ne X (pc := 538) (tgt := 551) h eL_law_538 (by decide) (fun h => ?_) (fun h => ?_)
  · refine v_aload_n X (pc := 541) 1 rfl eL_law_541 rfl ?_
    refine v_iconst X (pc := 542) (v := (0 : Int32)) eL_law_542 (by decide) ?_
    obtain ⟨r2, m2, hc2, h⟩ := bd_some h
    refine v_callV X (pc := 543) [_] [] ok_V_L_74 (cW_now  hc2) rfl (Nat.le_of_ble_eq_true rfl) ⟨Nat.le_of_ble_eq_true rfl, Nat.le_of_ble_eq_true rfl⟩ ⟨Nat.le_of_ble_eq_true rfl, Nat.le_of_ble_eq_true rfl⟩ (by decide) (by decide) rfl rfl eL_law_543 ?_
    refine v_iload X (pc := 546) 4 rfl eL_law_546 ?_
    refine v_icmp_eq X (pc := 548) (tgt := 553) h eL_law_548 (by decide) (fun h => ?_) (fun h => ?_)
    · refine v_iconst X (pc := 553) (v := (0 : Int32)) eL_law_553 (by decide) ?_
      refine v_istore X (pc := 554) (lv' := [(23, _), (0, _), (1, _), (2, _), (3, _), (4, _), (5, _), (6, _), (7, _), (12, _), (15, _), (16, _), (17, _)]) eL_law_554 (Nat.le_of_ble_eq_true rfl) rfl ?_
      exact v_sub [1, 2, 3, 4, 5, 6, 7, 8, 9, 10, 11, 12, 0] rfl (cL_law_556 X hr hk hk44 _ _ _ _ _ _ _ _ _ _ _ _  h)
    · refine v_iconst X (pc := 551) (v := (0 : Int32)) eL_law_551 (by decide) ?_
      exact absurd (Prod.mk.inj (Option.some.inj h)).1 (by decide)
  · refine v_iconst X (pc := 551) (v := (0 : Int32)) eL_law_551 (by decide) ?_
    exact absurd (Prod.mk.inj (Option.some.inj h)).1 (by decide)
set_option maxHeartbeats 4000000 in
set_option maxRecDepth 100000 in
theorem cL_law_526 {p : Program} {l : Launch} {e : Env} {s : State} {m : MethodId} {b : Nat} {below : List Frame} {meth : Method} {c : Code} {k : KK} {f : Nat} {mem' : Mem} (X : CX p s m #[Value.ref b] meth c k code 33 "WallShiftsLaw") (hr : meth.sig.returnType = ret) (hk : kh k = s.heap.size) {k44 : Int32 → Int32 → Int32 → Mem → Option (Int32 × Mem)} (hk44 : ∀ (x3 : Int32) (x4 : Int32) (x5 : Int32) (mem : Mem), k44 x3 x4 x5 mem = some ((1 : Int32), mem') → V p l e room_1 s m #[Value.ref b] below meth c 600000 7302250 (lw_Z below #[Value.ref b] s) k 33 mem 44 [(0, aR 24 0), (1, aR 0 0), (2, aR 13 0), (3, aI x3), (4, aI x4), (5, aI x5)] []) : ∀ (x3 : Int32) (x4 : Int32) (x5 : Int32) (x6 : Int32) (x7 : Int32) (x12 : Int32) (x15 : Int32) (x16 : Int32) (x17 : Int32) (x22 : Int32) (mem : Mem), dL_law_526 (kL k) (kx k) f k44 x3 x4 x5 x6 x7 x12 x15 x16 x17 x22 mem = some ((1 : Int32), mem') → V p l e room_1 s m #[Value.ref b] below meth c 600000 7302250 (lw_Z below #[Value.ref b] s) k 33 mem 526 [(0, aR 24 0), (1, aR 0 0), (2, aR 13 0), (3, aI x3), (4, aI x4), (5, aI x5), (6, aI x6), (7, aI x7), (12, aI x12), (15, aI x15), (16, aI x16), (17, aI x17), (22, aI x22)] [] := by
  intro x3 x4 x5 x6 x7 x12 x15 x16 x17 x22 mem  h
  unfold dL_law_526 at h
  refine v_iload X (pc := 526) 12 rfl eL_law_526 ?_
  refine v_ldc X (pc := 528) qw_405 eL_law_528 ?_
  refine v_icmp_ne X (pc := 530) (tgt := 551) h eL_law_530 (by decide) (fun h => ?_) (fun h => ?_)
  · exact v_sub [0, 1, 2, 3, 4, 5, 6, 7, 8, 9, 10, 11] rfl (cL_law_533 X hr hk hk44 _ _ _ _ _ _ _ _ _ _  h)
  · refine v_iconst X (pc := 551) (v := (0 : Int32)) eL_law_551 (by decide) ?_
    exact absurd (Prod.mk.inj (Option.some.inj h)).1 (by decide)
set_option maxHeartbeats 4000000 in
set_option maxRecDepth 100000 in
theorem cL_law_496 {p : Program} {l : Launch} {e : Env} {s : State} {m : MethodId} {b : Nat} {below : List Frame} {meth : Method} {c : Code} {k : KK} {f : Nat} {mem' : Mem} (X : CX p s m #[Value.ref b] meth c k code 33 "WallShiftsLaw") (hr : meth.sig.returnType = ret) (hk : kh k = s.heap.size) {k44 : Int32 → Int32 → Int32 → Mem → Option (Int32 × Mem)} (hk44 : ∀ (x3 : Int32) (x4 : Int32) (x5 : Int32) (mem : Mem), k44 x3 x4 x5 mem = some ((1 : Int32), mem') → V p l e room_1 s m #[Value.ref b] below meth c 600000 7302250 (lw_Z below #[Value.ref b] s) k 33 mem 44 [(0, aR 24 0), (1, aR 0 0), (2, aR 13 0), (3, aI x3), (4, aI x4), (5, aI x5)] []) : ∀ (x3 : Int32) (x4 : Int32) (x5 : Int32) (x6 : Int32) (x7 : Int32) (x8 : Int32) (x9 : Int32) (x12 : Int32) (x15 : Int32) (x16 : Int32) (x17 : Int32) (x22 : Int32) (s0 : Int32) (s1 : Int32) (mem : Mem), dL_law_496 (kL k) (kx k) f k44 x3 x4 x5 x6 x7 x8 x9 x12 x15 x16 x17 x22 s0 s1 mem = some ((1 : Int32), mem') → V p l e room_1 s m #[Value.ref b] below meth c 600000 7302250 (lw_Z below #[Value.ref b] s) k 33 mem 496 [(0, aR 24 0), (1, aR 0 0), (2, aR 13 0), (3, aI x3), (4, aI x4), (5, aI x5), (6, aI x6), (7, aI x7), (8, aI x8), (9, aI x9), (12, aI x12), (15, aI x15), (16, aI x16), (17, aI x17), (22, aI x22)] [aI s1, aI s0] := by
  intro x3 x4 x5 x6 x7 x8 x9 x12 x15 x16 x17 x22 s0 s1 mem  h
  unfold dL_law_496 at h
  refine v_icmp_ne X (pc := 496) (tgt := 551) h eL_law_496 (by decide) (fun h => ?_) (fun h => ?_)
  · refine v_iload X (pc := 499) 9 rfl eL_law_499 ?_
    refine v_ldc X (pc := 501) qw_405 eL_law_501 ?_
    refine v_icmp_eq X (pc := 503) (tgt := 526) h eL_law_503 (by decide) (fun h => ?_) (fun h => ?_)
    · exact v_sub [0, 1, 2, 3, 4, 5, 6, 7, 10, 11, 12, 13, 14] rfl (cL_law_526 X hr hk hk44 _ _ _ _ _ _ _ _ _ _ _  h)
    · refine v_iload X (pc := 506) 9 rfl eL_law_506 ?_
      refine v_iload X (pc := 508) 8 rfl eL_law_508 ?_
      refine v_iadd X (pc := 510) eL_law_510 ?_
      refine v_bipush X (pc := 511) (v := (60 : Int32)) eL_law_511 (by decide) ?_
      refine v_icmp_gt X (pc := 513) (tgt := 526) h eL_law_513 (by decide) (fun h => ?_) (fun h => ?_)
      · exact v_sub [0, 1, 2, 3, 4, 5, 6, 7, 10, 11, 12, 13, 14] rfl (cL_law_526 X hr hk hk44 _ _ _ _ _ _ _ _ _ _ _  h)
      · refine v_iload X (pc := 516) 14 rfl eL_law_516 ?_
        refine v_iload X (pc := 518) 9 rfl eL_law_518 ?_
        refine v_icmp_eq X (pc := 520) (tgt := 533) h eL_law_520 (by decide) (fun h => ?_) (fun h => ?_)
        · exact v_sub [0, 1, 2, 3, 4, 5, 6, 7, 10, 11, 12, 13] rfl (cL_law_533 X hr hk hk44 _ _ _ _ _ _ _ _ _ _  h)
        · refine v_goto X (pc := 523) (tgt := 551) eL_law_523 (by decide) ?_
          refine v_iconst X (pc := 551) (v := (0 : Int32)) eL_law_551 (by decide) ?_
          exact absurd (Prod.mk.inj (Option.some.inj h)).1 (by decide)
  · refine v_iconst X (pc := 551) (v := (0 : Int32)) eL_law_551 (by decide) ?_
    exact absurd (Prod.mk.inj (Option.some.inj h)).1 (by decide)
set_option maxHeartbeats 4000000 in
set_option maxRecDepth 100000 in
theorem cL_law_486 {p : Program} {l : Launch} {e : Env} {s : State} {m : MethodId} {b : Nat} {below : List Frame} {meth : Method} {c : Code} {k : KK} {f : Nat} {mem' : Mem} (X : CX p s m #[Value.ref b] meth c k code 33 "WallShiftsLaw") (hr : meth.sig.returnType = ret) (hk : kh k = s.heap.size) {k44 : Int32 → Int32 → Int32 → Mem → Option (Int32 × Mem)} (hk44 : ∀ (x3 : Int32) (x4 : Int32) (x5 : Int32) (mem : Mem), k44 x3 x4 x5 mem = some ((1 : Int32), mem') → V p l e room_1 s m #[Value.ref b] below meth c 600000 7302250 (lw_Z below #[Value.ref b] s) k 33 mem 44 [(0, aR 24 0), (1, aR 0 0), (2, aR 13 0), (3, aI x3), (4, aI x4), (5, aI x5)] []) : ∀ (x3 : Int32) (x4 : Int32) (x5 : Int32) (x6 : Int32) (x7 : Int32) (x8 : Int32) (x9 : Int32) (x12 : Int32) (x15 : Int32) (x16 : Int32) (x17 : Int32) (x18 : Int32) (x22 : Int32) (s0 : Int32) (mem : Mem), dL_law_486 (kL k) (kx k) f k44 x3 x4 x5 x6 x7 x8 x9 x12 x15 x16 x17 x18 x22 s0 mem = some ((1 : Int32), mem') → V p l e room_1 s m #[Value.ref b] below meth c 600000 7302250 (lw_Z below #[Value.ref b] s) k 33 mem 486 [(0, aR 24 0), (1, aR 0 0), (2, aR 13 0), (3, aI x3), (4, aI x4), (5, aI x5), (6, aI x6), (7, aI x7), (8, aI x8), (9, aI x9), (12, aI x12), (15, aI x15), (16, aI x16), (17, aI x17), (18, aI x18), (22, aI x22)] [aI s0] := by
  intro x3 x4 x5 x6 x7 x8 x9 x12 x15 x16 x17 x18 x22 s0 mem  h
  unfold dL_law_486 at h
  refine v_iload X (pc := 486) 14 rfl eL_law_486 ?_
  refine v_if_le X (pc := 488) (tgt := 495) h eL_law_488 (by decide) (fun h => ?_) (fun h => ?_)
  · refine v_iconst X (pc := 491) (v := (1 : Int32)) eL_law_491 (by decide) ?_
    refine v_goto X (pc := 492) (tgt := 496) eL_law_492 (by decide) ?_
    exact v_sub [0, 1, 2, 3, 4, 5, 6, 7, 8, 9, 10, 11, 12, 13, 15] rfl (cL_law_496 X hr hk hk44 _ _ _ _ _ _ _ _ _ _ _ _ _ _ _  h)
  · refine v_iconst X (pc := 495) (v := (0 : Int32)) eL_law_495 (by decide) ?_
    exact v_sub [0, 1, 2, 3, 4, 5, 6, 7, 8, 9, 10, 11, 12, 13, 15] rfl (cL_law_496 X hr hk hk44 _ _ _ _ _ _ _ _ _ _ _ _ _ _ _  h)
set_option maxHeartbeats 4000000 in
set_option maxRecDepth 100000 in
theorem cL_law_469 {p : Program} {l : Launch} {e : Env} {s : State} {m : MethodId} {b : Nat} {below : List Frame} {meth : Method} {c : Code} {k : KK} {f : Nat} {mem' : Mem} (X : CX p s m #[Value.ref b] meth c k code 33 "WallShiftsLaw") (hr : meth.sig.returnType = ret) (hk : kh k = s.heap.size) {k44 : Int32 → Int32 → Int32 → Mem → Option (Int32 × Mem)} (hk44 : ∀ (x3 : Int32) (x4 : Int32) (x5 : Int32) (mem : Mem), k44 x3 x4 x5 mem = some ((1 : Int32), mem') → V p l e room_1 s m #[Value.ref b] below meth c 600000 7302250 (lw_Z below #[Value.ref b] s) k 33 mem 44 [(0, aR 24 0), (1, aR 0 0), (2, aR 13 0), (3, aI x3), (4, aI x4), (5, aI x5)] []) : ∀ (x3 : Int32) (x4 : Int32) (x5 : Int32) (x6 : Int32) (x7 : Int32) (x8 : Int32) (x9 : Int32) (x12 : Int32) (x15 : Int32) (x16 : Int32) (x17 : Int32) (x18 : Int32) (x20 : Int32) (x22 : Int32) (mem : Mem), dL_law_469 (kL k) (kx k) f k44 x3 x4 x5 x6 x7 x8 x9 x12 x15 x16 x17 x18 x20 x22 mem = some ((1 : Int32), mem') → V p l e room_1 s m #[Value.ref b] below meth c 600000 7302250 (lw_Z below #[Value.ref b] s) k 33 mem 469 [(0, aR 24 0), (1, aR 0 0), (2, aR 13 0), (3, aI x3), (4, aI x4), (5, aI x5), (6, aI x6), (7, aI x7), (8, aI x8), (9, aI x9), (12, aI x12), (15, aI x15), (16, aI x16), (17, aI x17), (18, aI x18), (20, aI x20), (22, aI x22)] [] := by
  intro x3 x4 x5 x6 x7 x8 x9 x12 x15 x16 x17 x18 x20 x22 mem  h
  unfold dL_law_469 at h
  refine v_iload X (pc := 469) 15 rfl eL_law_469 ?_
  refine v_if_ne X (pc := 471) (tgt := 551) h eL_law_471 (by decide) (fun h => ?_) (fun h => ?_)
  · refine v_iload X (pc := 474) 11 rfl eL_law_474 ?_
    refine v_ldc X (pc := 476) qw_405 eL_law_476 ?_
    refine v_icmp_ne X (pc := 478) (tgt := 485) h eL_law_478 (by decide) (fun h => ?_) (fun h => ?_)
    · refine v_iconst X (pc := 481) (v := (1 : Int32)) eL_law_481 (by decide) ?_
      refine v_goto X (pc := 482) (tgt := 486) eL_law_482 (by decide) ?_
      exact v_sub [0, 1, 2, 3, 4, 5, 6, 7, 8, 9, 10, 11, 12, 13, 14, 16] rfl (cL_law_486 X hr hk hk44 _ _ _ _ _ _ _ _ _ _ _ _ _ _ _  h)
    · refine v_iconst X (pc := 485) (v := (0 : Int32)) eL_law_485 (by decide) ?_
      exact v_sub [0, 1, 2, 3, 4, 5, 6, 7, 8, 9, 10, 11, 12, 13, 14, 16] rfl (cL_law_486 X hr hk hk44 _ _ _ _ _ _ _ _ _ _ _ _ _ _ _  h)
  · refine v_iconst X (pc := 551) (v := (0 : Int32)) eL_law_551 (by decide) ?_
    exact absurd (Prod.mk.inj (Option.some.inj h)).1 (by decide)
set_option maxHeartbeats 4000000 in
set_option maxRecDepth 100000 in
theorem cL_law_312 {p : Program} {l : Launch} {e : Env} {s : State} {m : MethodId} {b : Nat} {below : List Frame} {meth : Method} {c : Code} {k : KK} {f : Nat} {mem' : Mem} (X : CX p s m #[Value.ref b] meth c k code 33 "WallShiftsLaw") (hr : meth.sig.returnType = ret) (hk : kh k = s.heap.size) {k44 : Int32 → Int32 → Int32 → Mem → Option (Int32 × Mem)} (hk44 : ∀ (x3 : Int32) (x4 : Int32) (x5 : Int32) (mem : Mem), k44 x3 x4 x5 mem = some ((1 : Int32), mem') → V p l e room_1 s m #[Value.ref b] below meth c 600000 7302250 (lw_Z below #[Value.ref b] s) k 33 mem 44 [(0, aR 24 0), (1, aR 0 0), (2, aR 13 0), (3, aI x3), (4, aI x4), (5, aI x5)] []) : ∀ (n : Nat) (x3 : Int32) (x4 : Int32) (x5 : Int32) (x6 : Int32) (x7 : Int32) (x8 : Int32) (x9 : Int32) (x12 : Int32) (x13 : Int32) (x14 : Int32) (x15 : Int32) (x16 : Int32) (x17 : Int32) (x18 : Int32) (x19 : Int32) (x20 : Int32) (x21 : Int32) (x22 : Int32) (x23 : Int32) (mem : Mem), dL_law_312 (kL k) (kx k) f k44 n x3 x4 x5 x6 x7 x8 x9 x12 x13 x14 x15 x16 x17 x18 x19 x20 x21 x22 x23 mem = some ((1 : Int32), mem') → V p l e room_1 s m #[Value.ref b] below meth c 600000 7302250 (lw_Z below #[Value.ref b] s) k 33 mem 312 [(0, aR 24 0), (1, aR 0 0), (2, aR 13 0), (3, aI x3), (4, aI x4), (5, aI x5), (6, aI x6), (7, aI x7), (8, aI x8), (9, aI x9), (12, aI x12), (13, aI x13), (14, aI x14), (15, aI x15), (16, aI x16), (17, aI x17), (18, aI x18), (19, aI x19), (20, aI x20), (21, aI x21), (22, aI x22), (23, aI x23)] [] := by
  intro n
  induction n with
  | zero =>
    intro x3 x4 x5 x6 x7 x8 x9 x12 x13 x14 x15 x16 x17 x18 x19 x20 x21 x22 x23 mem  h
    exact nomatch (show (none : Option (Int32 × Mem)) = some _ from h)
  | succ n ih =>
    intro x3 x4 x5 x6 x7 x8 x9 x12 x13 x14 x15 x16 x17 x18 x19 x20 x21 x22 x23 mem  h
    rw [dL_law_312] at h
    refine v_iload X (pc := 312) 21 rfl eL_law_312 ?_
    refine v_bipush X (pc := 314) (v := (60 : Int32)) eL_law_314 (by decide) ?_
    refine v_icmp_ge X (pc := 316) (tgt := 450) h eL_law_316 (by decide) (fun h => ?_) (fun h => ?_)
    · refine v_aload_n X (pc := 319) 1 rfl eL_law_319 rfl ?_
      refine v_iload X (pc := 320) 7 rfl eL_law_320 ?_
      refine v_sipush X (pc := 322) (v := (1023 : Int32)) eL_law_322 (by decide) ?_
      obtain ⟨r1, m1, hc1, h⟩ := bd_some h
      refine v_callS X (pc := 325) [_, _, _] [] ok_S_L_113 (cL_isUnheard  hc1) rfl (Nat.le_of_ble_eq_true rfl) ⟨Nat.le_of_ble_eq_true rfl, Nat.le_of_ble_eq_true rfl⟩ ⟨Nat.le_of_ble_eq_true rfl, Nat.le_of_ble_eq_true rfl⟩ eL_law_325 ?_
      refine v_istore X (pc := 328) (lv' := [(24, _), (0, _), (1, _), (2, _), (3, _), (4, _), (5, _), (6, _), (7, _), (8, _), (9, _), (12, _), (13, _), (14, _), (15, _), (16, _), (17, _), (18, _), (19, _), (20, _), (21, _), (22, _), (23, _)]) eL_law_328 (Nat.le_of_ble_eq_true rfl) rfl ?_
      refine v_iload X (pc := 330) 0 rfl eL_law_330 ?_
      refine v_if_eq X (pc := 332) (tgt := 342) h eL_law_332 (by decide) (fun h => ?_) (fun h => ?_)
      · refine v_iconst X (pc := 342) (v := (0 : Int32)) eL_law_342 (by decide) ?_
        exact v_sub [1, 2, 3, 4, 5, 6, 7, 8, 9, 10, 11, 12, 13, 14, 15, 16, 17, 18, 19, 21, 22, 0] rfl (cL_law_343 X hr hk hk44 ih _ _ _ _ _ _ _ _ _ _ _ _ _ _ _ _ _ _ _ _ _  h)
      · refine v_iload X (pc := 335) 20 rfl eL_law_335 ?_
        refine v_iconst X (pc := 337) (v := (1 : Int32)) eL_law_337 (by decide) ?_
        refine v_iadd X (pc := 338) eL_law_338 ?_
        refine v_goto X (pc := 339) (tgt := 343) eL_law_339 (by decide) ?_
        exact v_sub [1, 2, 3, 4, 5, 6, 7, 8, 9, 10, 11, 12, 13, 14, 15, 16, 17, 18, 19, 21, 22, 0] rfl (cL_law_343 X hr hk hk44 ih _ _ _ _ _ _ _ _ _ _ _ _ _ _ _ _ _ _ _ _ _  h)
    · refine v_iload X (pc := 450) 16 rfl eL_law_450 ?_
      refine v_iload X (pc := 452) 11 rfl eL_law_452 ?_
      refine v_icmp_ne X (pc := 454) (tgt := 551) h eL_law_454 (by decide) (fun h => ?_) (fun h => ?_)
      · refine v_iload X (pc := 457) 12 rfl eL_law_457 ?_
        refine v_if_lt X (pc := 459) (tgt := 469) h eL_law_459 (by decide) (fun h => ?_) (fun h => ?_)
        · exact v_sub [0, 1, 2, 3, 4, 5, 6, 7, 8, 9, 10, 13, 14, 15, 16, 18, 20] rfl (cL_law_469 X hr hk hk44 _ _ _ _ _ _ _ _ _ _ _ _ _ _ _  h)
        · refine v_iload X (pc := 462) 17 rfl eL_law_462 ?_
          refine v_iload X (pc := 464) 16 rfl eL_law_464 ?_
          refine v_icmp_le X (pc := 466) (tgt := 551) h eL_law_466 (by decide) (fun h => ?_) (fun h => ?_)
          · exact v_sub [0, 1, 2, 3, 4, 5, 6, 7, 8, 9, 10, 13, 14, 15, 16, 18, 20] rfl (cL_law_469 X hr hk hk44 _ _ _ _ _ _ _ _ _ _ _ _ _ _ _  h)
          · refine v_iconst X (pc := 551) (v := (0 : Int32)) eL_law_551 (by decide) ?_
            exact absurd (Prod.mk.inj (Option.some.inj h)).1 (by decide)
      · refine v_iconst X (pc := 551) (v := (0 : Int32)) eL_law_551 (by decide) ?_
        exact absurd (Prod.mk.inj (Option.some.inj h)).1 (by decide)
set_option maxHeartbeats 4000000 in
set_option maxRecDepth 100000 in
theorem cL_law_220 {p : Program} {l : Launch} {e : Env} {s : State} {m : MethodId} {b : Nat} {below : List Frame} {meth : Method} {c : Code} {k : KK} {f : Nat} {mem' : Mem} (X : CX p s m #[Value.ref b] meth c k code 33 "WallShiftsLaw") (hr : meth.sig.returnType = ret) (hk : kh k = s.heap.size) {k44 : Int32 → Int32 → Int32 → Mem → Option (Int32 × Mem)} (hk44 : ∀ (x3 : Int32) (x4 : Int32) (x5 : Int32) (mem : Mem), k44 x3 x4 x5 mem = some ((1 : Int32), mem') → V p l e room_1 s m #[Value.ref b] below meth c 600000 7302250 (lw_Z below #[Value.ref b] s) k 33 mem 44 [(0, aR 24 0), (1, aR 0 0), (2, aR 13 0), (3, aI x3), (4, aI x4), (5, aI x5)] []) : ∀ (x3 : Int32) (x4 : Int32) (x5 : Int32) (x6 : Int32) (x7 : Int32) (x8 : Int32) (x9 : Int32) (mem : Mem), dL_law_220 (kL k) (kx k) f k44 x3 x4 x5 x6 x7 x8 x9 mem = some ((1 : Int32), mem') → V p l e room_1 s m #[Value.ref b] below meth c 600000 7302250 (lw_Z below #[Value.ref b] s) k 33 mem 220 [(0, aR 24 0), (1, aR 0 0), (2, aR 13 0), (3, aI x3), (4, aI x4), (5, aI x5), (6, aI x6), (7, aI x7), (8, aI x8), (9, aI x9)] [] := by
  intro x3 x4 x5 x6 x7 x8 x9 mem  h
  unfold dL_law_220 at h
  refine v_iconst X (pc := 220) (v := (1 : Int32)) eL_law_220 (by decide) ?_
  refine v_iload X (pc := 221) 6 rfl eL_law_221 ?_
  refine v_bipush X (pc := 223) (v := (9 : Int32)) eL_law_223 (by decide) ?_
  refine v_ishr X (pc := 225) eL_law_225 ?_
  refine v_bipush X (pc := 226) (v := (40 : Int32)) eL_law_226 (by decide) ?_
  obtain ⟨r1, m1, hc1, h⟩ := bd_some h
  refine v_callS X (pc := 228) [_, _] [_] ok_S_L_52 (cL_mod  hc1) rfl (Nat.le_of_ble_eq_true rfl) ⟨Nat.le_of_ble_eq_true rfl, Nat.le_of_ble_eq_true rfl⟩ ⟨Nat.le_of_ble_eq_true rfl, Nat.le_of_ble_eq_true rfl⟩ eL_law_228 ?_
  refine v_iadd X (pc := 231) eL_law_231 ?_
  refine v_istore X (pc := 232) (lv' := [(12, _), (0, _), (1, _), (2, _), (3, _), (4, _), (5, _), (6, _), (7, _), (8, _), (9, _)]) eL_law_232 (Nat.le_of_ble_eq_true rfl) rfl ?_
  refine v_aload_n X (pc := 234) 2 rfl eL_law_234 rfl ?_
  refine v_iload X (pc := 235) 8 rfl eL_law_235 ?_
  refine v_iload X (pc := 237) 0 rfl eL_law_237 ?_
  obtain ⟨r2, m2, hc2, h⟩ := bd_some h
  refine v_callV X (pc := 239) [_, _] [] ok_V_L_98 (cW_quiet  hc2) rfl (Nat.le_of_ble_eq_true rfl) ⟨Nat.le_of_ble_eq_true rfl, Nat.le_of_ble_eq_true rfl⟩ ⟨Nat.le_of_ble_eq_true rfl, Nat.le_of_ble_eq_true rfl⟩ (by decide) (by decide) rfl rfl eL_law_239 ?_
  refine v_istore X (pc := 242) (lv' := [(13, _), (12, _), (0, _), (1, _), (2, _), (3, _), (4, _), (5, _), (6, _), (7, _), (8, _), (9, _)]) eL_law_242 (Nat.le_of_ble_eq_true rfl) rfl ?_
  refine v_aload_n X (pc := 244) 3 rfl eL_law_244 rfl ?_
  refine v_iload X (pc := 245) 9 rfl eL_law_245 ?_
  refine v_iload X (pc := 247) 1 rfl eL_law_247 ?_
  obtain ⟨r3, m3, hc3, h⟩ := bd_some h
  refine v_callV X (pc := 249) [_, _] [] ok_V_L_101 (cW_worst  hc3) rfl (Nat.le_of_ble_eq_true rfl) ⟨Nat.le_of_ble_eq_true rfl, Nat.le_of_ble_eq_true rfl⟩ ⟨Nat.le_of_ble_eq_true rfl, Nat.le_of_ble_eq_true rfl⟩ (by decide) (by decide) rfl rfl eL_law_249 ?_
  refine v_istore X (pc := 252) (lv' := [(14, _), (13, _), (12, _), (0, _), (1, _), (2, _), (3, _), (4, _), (5, _), (6, _), (7, _), (8, _), (9, _)]) eL_law_252 (Nat.le_of_ble_eq_true rfl) rfl ?_
  refine v_aload_n X (pc := 254) 4 rfl eL_law_254 rfl ?_
  refine v_iload X (pc := 255) 10 rfl eL_law_255 ?_
  refine v_iload X (pc := 257) 2 rfl eL_law_257 ?_
  obtain ⟨r4, m4, hc4, h⟩ := bd_some h
  refine v_callV X (pc := 259) [_, _] [] ok_V_L_104 (cW_cover  hc4) rfl (Nat.le_of_ble_eq_true rfl) ⟨Nat.le_of_ble_eq_true rfl, Nat.le_of_ble_eq_true rfl⟩ ⟨Nat.le_of_ble_eq_true rfl, Nat.le_of_ble_eq_true rfl⟩ (by decide) (by decide) rfl rfl eL_law_259 ?_
  refine v_istore X (pc := 262) (lv' := [(15, _), (14, _), (13, _), (12, _), (0, _), (1, _), (2, _), (3, _), (4, _), (5, _), (6, _), (7, _), (8, _), (9, _)]) eL_law_262 (Nat.le_of_ble_eq_true rfl) rfl ?_
  refine v_aload_n X (pc := 264) 5 rfl eL_law_264 rfl ?_
  refine v_iload X (pc := 265) 11 rfl eL_law_265 ?_
  refine v_iload X (pc := 267) 3 rfl eL_law_267 ?_
  obtain ⟨r5, m5, hc5, h⟩ := bd_some h
  refine v_callV X (pc := 269) [_, _] [] ok_V_L_107 (cW_shift  hc5) rfl (Nat.le_of_ble_eq_true rfl) ⟨Nat.le_of_ble_eq_true rfl, Nat.le_of_ble_eq_true rfl⟩ ⟨Nat.le_of_ble_eq_true rfl, Nat.le_of_ble_eq_true rfl⟩ (by decide) (by decide) rfl rfl eL_law_269 ?_
  refine v_istore X (pc := 272) (lv' := [(16, _), (15, _), (14, _), (13, _), (12, _), (0, _), (1, _), (2, _), (3, _), (4, _), (5, _), (6, _), (7, _), (8, _), (9, _)]) eL_law_272 (Nat.le_of_ble_eq_true rfl) rfl ?_
  refine v_aload_n X (pc := 274) 6 rfl eL_law_274 rfl ?_
  refine v_iload X (pc := 275) 11 rfl eL_law_275 ?_
  refine v_bipush X (pc := 277) (v := (14 : Int32)) eL_law_277 (by decide) ?_
  refine v_ishr X (pc := 279) eL_law_279 ?_
  refine v_iload_n X (pc := 280) 8 rfl eL_law_280 rfl ?_
  obtain ⟨r6, m6, hc6, h⟩ := bd_some h
  refine v_callS X (pc := 281) [_, _] [_] ok_S_L_52 (cL_mod  hc6) rfl (Nat.le_of_ble_eq_true rfl) ⟨Nat.le_of_ble_eq_true rfl, Nat.le_of_ble_eq_true rfl⟩ ⟨Nat.le_of_ble_eq_true rfl, Nat.le_of_ble_eq_true rfl⟩ eL_law_281 ?_
  refine v_iload X (pc := 284) 12 rfl eL_law_284 ?_
  refine v_iload X (pc := 286) 4 rfl eL_law_286 ?_
  obtain ⟨r7, m7, hc7, h⟩ := bd_some h
  refine v_callV X (pc := 288) [_, _, _] [] ok_V_L_110 (cW_side  hc7) rfl (Nat.le_of_ble_eq_true rfl) ⟨Nat.le_of_ble_eq_true rfl, Nat.le_of_ble_eq_true rfl⟩ ⟨Nat.le_of_ble_eq_true rfl, Nat.le_of_ble_eq_true rfl⟩ (by decide) (by decide) rfl rfl eL_law_288 ?_
  refine v_istore X (pc := 291) (lv' := [(17, _), (16, _), (15, _), (14, _), (13, _), (12, _), (0, _), (1, _), (2, _), (3, _), (4, _), (5, _), (6, _), (7, _), (8, _), (9, _)]) eL_law_291 (Nat.le_of_ble_eq_true rfl) rfl ?_
  refine v_iconst X (pc := 293) (v := (0 : Int32)) eL_law_293 (by decide) ?_
  refine v_istore X (pc := 294) (lv' := [(18, _), (17, _), (16, _), (15, _), (14, _), (13, _), (12, _), (0, _), (1, _), (2, _), (3, _), (4, _), (5, _), (6, _), (7, _), (8, _), (9, _)]) eL_law_294 (Nat.le_of_ble_eq_true rfl) rfl ?_
  refine v_iconst X (pc := 296) (v := (0 : Int32)) eL_law_296 (by decide) ?_
  refine v_istore X (pc := 297) (lv' := [(19, _), (18, _), (17, _), (16, _), (15, _), (14, _), (13, _), (12, _), (0, _), (1, _), (2, _), (3, _), (4, _), (5, _), (6, _), (7, _), (8, _), (9, _)]) eL_law_297 (Nat.le_of_ble_eq_true rfl) rfl ?_
  refine v_iconst X (pc := 299) (v := (0 : Int32)) eL_law_299 (by decide) ?_
  refine v_istore X (pc := 300) (lv' := [(20, _), (19, _), (18, _), (17, _), (16, _), (15, _), (14, _), (13, _), (12, _), (0, _), (1, _), (2, _), (3, _), (4, _), (5, _), (6, _), (7, _), (8, _), (9, _)]) eL_law_300 (Nat.le_of_ble_eq_true rfl) rfl ?_
  refine v_iconst X (pc := 302) (v := (0 : Int32)) eL_law_302 (by decide) ?_
  refine v_istore X (pc := 303) (lv' := [(21, _), (20, _), (19, _), (18, _), (17, _), (16, _), (15, _), (14, _), (13, _), (12, _), (0, _), (1, _), (2, _), (3, _), (4, _), (5, _), (6, _), (7, _), (8, _), (9, _)]) eL_law_303 (Nat.le_of_ble_eq_true rfl) rfl ?_
  refine v_ldc X (pc := 305) qw_405 eL_law_305 ?_
  refine v_istore X (pc := 307) (lv' := [(22, _), (21, _), (20, _), (19, _), (18, _), (17, _), (16, _), (15, _), (14, _), (13, _), (12, _), (0, _), (1, _), (2, _), (3, _), (4, _), (5, _), (6, _), (7, _), (8, _), (9, _)]) eL_law_307 (Nat.le_of_ble_eq_true rfl) rfl ?_
  refine v_iconst X (pc := 309) (v := (0 : Int32)) eL_law_309 (by decide) ?_
  refine v_istore X (pc := 310) (lv' := [(23, _), (22, _), (21, _), (20, _), (19, _), (18, _), (17, _), (16, _), (15, _), (14, _), (13, _), (12, _), (0, _), (1, _), (2, _), (3, _), (4, _), (5, _), (6, _), (7, _), (8, _), (9, _)]) eL_law_310 (Nat.le_of_ble_eq_true rfl) rfl ?_
  exact v_sub [12, 13, 14, 15, 16, 17, 18, 19, 20, 21, 11, 10, 9, 8, 7, 6, 5, 4, 3, 2, 1, 0] rfl (cL_law_312 X hr hk hk44 _ _ _ _ _ _ _ _ _ _ _ _ _ _ _ _ _ _ _ _ _  h)
set_option maxHeartbeats 4000000 in
set_option maxRecDepth 100000 in
theorem cL_law_156 {p : Program} {l : Launch} {e : Env} {s : State} {m : MethodId} {b : Nat} {below : List Frame} {meth : Method} {c : Code} {k : KK} {f : Nat} {mem' : Mem} (X : CX p s m #[Value.ref b] meth c k code 33 "WallShiftsLaw") (hr : meth.sig.returnType = ret) (hk : kh k = s.heap.size) {k44 : Int32 → Int32 → Int32 → Mem → Option (Int32 × Mem)} (hk44 : ∀ (x3 : Int32) (x4 : Int32) (x5 : Int32) (mem : Mem), k44 x3 x4 x5 mem = some ((1 : Int32), mem') → V p l e room_1 s m #[Value.ref b] below meth c 600000 7302250 (lw_Z below #[Value.ref b] s) k 33 mem 44 [(0, aR 24 0), (1, aR 0 0), (2, aR 13 0), (3, aI x3), (4, aI x4), (5, aI x5)] []) : ∀ (x3 : Int32) (x4 : Int32) (x5 : Int32) (x6 : Int32) (x7 : Int32) (x8 : Int32) (x9 : Int32) (x10 : Int32) (x11 : Int32) (mem : Mem), dL_law_156 (kL k) (kx k) f k44 x3 x4 x5 x6 x7 x8 x9 x10 x11 mem = some ((1 : Int32), mem') → V p l e room_1 s m #[Value.ref b] below meth c 600000 7302250 (lw_Z below #[Value.ref b] s) k 33 mem 156 [(0, aR 24 0), (1, aR 0 0), (2, aR 13 0), (3, aI x3), (4, aI x4), (5, aI x5), (6, aI x6), (7, aI x7), (8, aI x8), (9, aI x9), (10, aI x10), (11, aI x11)] [] := by
  intro x3 x4 x5 x6 x7 x8 x9 x10 x11 mem  h
  unfold dL_law_156 at h
  refine v_iload X (pc := 156) 10 rfl eL_law_156 ?_
  refine v_ldc X (pc := 158) qw_405 eL_law_158 ?_
  refine v_icmp_ne X (pc := 160) (tgt := 173) h eL_law_160 (by decide) (fun h => ?_) (fun h => ?_)
  · refine v_iload X (pc := 163) 9 rfl eL_law_163 ?_
    refine v_ldc X (pc := 165) qw_405 eL_law_165 ?_
    refine v_icmp_eq X (pc := 167) (tgt := 220) h eL_law_167 (by decide) (fun h => ?_) (fun h => ?_)
    · exact v_sub [0, 1, 2, 3, 4, 5, 6, 7, 8, 9] rfl (cL_law_220 X hr hk hk44 _ _ _ _ _ _ _ _  h)
    · refine v_goto X (pc := 170) (tgt := 218) eL_law_170 (by decide) ?_
      refine v_iconst X (pc := 218) (v := (0 : Int32)) eL_law_218 (by decide) ?_
      exact absurd (Prod.mk.inj (Option.some.inj h)).1 (by decide)
  · refine v_iload X (pc := 173) 10 rfl eL_law_173 ?_
    refine v_if_lt X (pc := 175) (tgt := 218) h eL_law_175 (by decide) (fun h => ?_) (fun h => ?_)
    · refine v_iconst X (pc := 218) (v := (0 : Int32)) eL_law_218 (by decide) ?_
      exact absurd (Prod.mk.inj (Option.some.inj h)).1 (by decide)
    · refine v_iload X (pc := 178) 10 rfl eL_law_178 ?_
      refine v_bipush X (pc := 180) (v := (9 : Int32)) eL_law_180 (by decide) ?_
      refine v_icmp_gt X (pc := 182) (tgt := 218) h eL_law_182 (by decide) (fun h => ?_) (fun h => ?_)
      · refine v_iconst X (pc := 218) (v := (0 : Int32)) eL_law_218 (by decide) ?_
        exact absurd (Prod.mk.inj (Option.some.inj h)).1 (by decide)
      · refine v_iload X (pc := 185) 11 rfl eL_law_185 ?_
        refine v_if_lt X (pc := 187) (tgt := 218) h eL_law_187 (by decide) (fun h => ?_) (fun h => ?_)
        · refine v_iconst X (pc := 218) (v := (0 : Int32)) eL_law_218 (by decide) ?_
          exact absurd (Prod.mk.inj (Option.some.inj h)).1 (by decide)
        · refine v_iload X (pc := 190) 9 rfl eL_law_190 ?_
          refine v_ldc X (pc := 192) qw_405 eL_law_192 ?_
          refine v_icmp_eq X (pc := 194) (tgt := 220) h eL_law_194 (by decide) (fun h => ?_) (fun h => ?_)
          · exact v_sub [0, 1, 2, 3, 4, 5, 6, 7, 8, 9] rfl (cL_law_220 X hr hk hk44 _ _ _ _ _ _ _ _  h)
          · refine v_iload X (pc := 197) 11 rfl eL_law_197 ?_
            refine v_iload X (pc := 199) 9 rfl eL_law_199 ?_
            refine v_icmp_gt X (pc := 201) (tgt := 218) h eL_law_201 (by decide) (fun h => ?_) (fun h => ?_)
            · refine v_iconst X (pc := 218) (v := (0 : Int32)) eL_law_218 (by decide) ?_
              exact absurd (Prod.mk.inj (Option.some.inj h)).1 (by decide)
            · refine v_iload X (pc := 204) 11 rfl eL_law_204 ?_
              refine v_iload X (pc := 206) 9 rfl eL_law_206 ?_
              refine v_icmp_ne X (pc := 208) (tgt := 220) h eL_law_208 (by decide) (fun h => ?_) (fun h => ?_)
              · refine v_iload X (pc := 211) 10 rfl eL_law_211 ?_
                refine v_iload X (pc := 213) 7 rfl eL_law_213 ?_
                refine v_icmp_le X (pc := 215) (tgt := 220) h eL_law_215 (by decide) (fun h => ?_) (fun h => ?_)
                · refine v_iconst X (pc := 218) (v := (0 : Int32)) eL_law_218 (by decide) ?_
                  exact absurd (Prod.mk.inj (Option.some.inj h)).1 (by decide)
                · exact v_sub [0, 1, 2, 3, 4, 5, 6, 7, 8, 9] rfl (cL_law_220 X hr hk hk44 _ _ _ _ _ _ _ _  h)
              · exact v_sub [0, 1, 2, 3, 4, 5, 6, 7, 8, 9] rfl (cL_law_220 X hr hk hk44 _ _ _ _ _ _ _ _  h)
set_option maxHeartbeats 4000000 in
set_option maxRecDepth 100000 in
theorem cL_law_134 {p : Program} {l : Launch} {e : Env} {s : State} {m : MethodId} {b : Nat} {below : List Frame} {meth : Method} {c : Code} {k : KK} {f : Nat} {mem' : Mem} (X : CX p s m #[Value.ref b] meth c k code 33 "WallShiftsLaw") (hr : meth.sig.returnType = ret) (hk : kh k = s.heap.size) {k44 : Int32 → Int32 → Int32 → Mem → Option (Int32 × Mem)} (hk44 : ∀ (x3 : Int32) (x4 : Int32) (x5 : Int32) (mem : Mem), k44 x3 x4 x5 mem = some ((1 : Int32), mem') → V p l e room_1 s m #[Value.ref b] below meth c 600000 7302250 (lw_Z below #[Value.ref b] s) k 33 mem 44 [(0, aR 24 0), (1, aR 0 0), (2, aR 13 0), (3, aI x3), (4, aI x4), (5, aI x5)] []) : ∀ (x3 : Int32) (x4 : Int32) (x5 : Int32) (x6 : Int32) (x7 : Int32) (x8 : Int32) (x9 : Int32) (x10 : Int32) (s0 : Int32) (mem : Mem), dL_law_134 (kL k) (kx k) f k44 x3 x4 x5 x6 x7 x8 x9 x10 s0 mem = some ((1 : Int32), mem') → V p l e room_1 s m #[Value.ref b] below meth c 600000 7302250 (lw_Z below #[Value.ref b] s) k 33 mem 134 [(0, aR 24 0), (1, aR 0 0), (2, aR 13 0), (3, aI x3), (4, aI x4), (5, aI x5), (6, aI x6), (7, aI x7), (8, aI x8), (9, aI x9), (10, aI x10)] [aI s0] := by
  intro x3 x4 x5 x6 x7 x8 x9 x10 s0 mem  h
  unfold dL_law_134 at h
  refine v_istore X (pc := 134) (lv' := [(11, _), (0, _), (1, _), (2, _), (3, _), (4, _), (5, _), (6, _), (7, _), (8, _), (9, _), (10, _)]) eL_law_134 (Nat.le_of_ble_eq_true rfl) rfl ?_
  refine v_iload X (pc := 136) 10 rfl eL_law_136 ?_
  refine v_ldc X (pc := 138) qw_405 eL_law_138 ?_
  refine v_icmp_eq X (pc := 140) (tgt := 156) h eL_law_140 (by decide) (fun h => ?_) (fun h => ?_)
  · exact v_sub [1, 2, 3, 4, 5, 6, 7, 8, 9, 10, 11, 0] rfl (cL_law_156 X hr hk hk44 _ _ _ _ _ _ _ _ _ _  h)
  · refine v_iload X (pc := 143) 10 rfl eL_law_143 ?_
    refine v_if_lt X (pc := 145) (tgt := 218) h eL_law_145 (by decide) (fun h => ?_) (fun h => ?_)
    · refine v_iconst X (pc := 218) (v := (0 : Int32)) eL_law_218 (by decide) ?_
      exact absurd (Prod.mk.inj (Option.some.inj h)).1 (by decide)
    · refine v_iload X (pc := 148) 10 rfl eL_law_148 ?_
      refine v_sipush X (pc := 150) (v := (240 : Int32)) eL_law_150 (by decide) ?_
      refine v_icmp_gt X (pc := 153) (tgt := 218) h eL_law_153 (by decide) (fun h => ?_) (fun h => ?_)
      · refine v_iconst X (pc := 218) (v := (0 : Int32)) eL_law_218 (by decide) ?_
        exact absurd (Prod.mk.inj (Option.some.inj h)).1 (by decide)
      · exact v_sub [1, 2, 3, 4, 5, 6, 7, 8, 9, 10, 11, 0] rfl (cL_law_156 X hr hk hk44 _ _ _ _ _ _ _ _ _ _  h)
set_option maxHeartbeats 4000000 in
set_option maxRecDepth 100000 in
theorem cL_law_78 {p : Program} {l : Launch} {e : Env} {s : State} {m : MethodId} {b : Nat} {below : List Frame} {meth : Method} {c : Code} {k : KK} {f : Nat} {mem' : Mem} (X : CX p s m #[Value.ref b] meth c k code 33 "WallShiftsLaw") (hr : meth.sig.returnType = ret) (hk : kh k = s.heap.size) {k44 : Int32 → Int32 → Int32 → Mem → Option (Int32 × Mem)} (hk44 : ∀ (x3 : Int32) (x4 : Int32) (x5 : Int32) (mem : Mem), k44 x3 x4 x5 mem = some ((1 : Int32), mem') → V p l e room_1 s m #[Value.ref b] below meth c 600000 7302250 (lw_Z below #[Value.ref b] s) k 33 mem 44 [(0, aR 24 0), (1, aR 0 0), (2, aR 13 0), (3, aI x3), (4, aI x4), (5, aI x5)] []) : ∀ (x3 : Int32) (x4 : Int32) (x5 : Int32) (x6 : Int32) (s0 : Int32) (s1 : Int32) (mem : Mem), dL_law_78 (kL k) (kx k) f k44 x3 x4 x5 x6 s0 s1 mem = some ((1 : Int32), mem') → V p l e room_1 s m #[Value.ref b] below meth c 600000 7302250 (lw_Z below #[Value.ref b] s) k 33 mem 78 [(0, aR 24 0), (1, aR 0 0), (2, aR 13 0), (3, aI x3), (4, aI x4), (5, aI x5), (6, aI x6)] [aI s1, aI s0] := by
  intro x3 x4 x5 x6 s0 s1 mem  h
  unfold dL_law_78 at h
  obtain ⟨r1, m1, hc1, h⟩ := bd_some h
  refine v_callS X (pc := 78) [_, _] [] ok_S_L_52 (cL_mod  hc1) rfl (Nat.le_of_ble_eq_true rfl) ⟨Nat.le_of_ble_eq_true rfl, Nat.le_of_ble_eq_true rfl⟩ ⟨Nat.le_of_ble_eq_true rfl, Nat.le_of_ble_eq_true rfl⟩ eL_law_78 ?_
  refine v_istore X (pc := 81) (lv' := [(7, _), (0, _), (1, _), (2, _), (3, _), (4, _), (5, _), (6, _)]) eL_law_81 (Nat.le_of_ble_eq_true rfl) rfl ?_
  refine v_iconst X (pc := 83) (v := (1 : Int32)) eL_law_83 (by decide) ?_
  refine v_iload X (pc := 84) 7 rfl eL_law_84 ?_
  refine v_iconst X (pc := 86) (v := (5 : Int32)) eL_law_86 (by decide) ?_
  refine v_ishr X (pc := 87) eL_law_87 ?_
  refine v_bipush X (pc := 88) (v := (12 : Int32)) eL_law_88 (by decide) ?_
  obtain ⟨r2, m2, hc2, h⟩ := bd_some h
  refine v_callS X (pc := 90) [_, _] [_] ok_S_L_52 (cL_mod  hc2) rfl (Nat.le_of_ble_eq_true rfl) ⟨Nat.le_of_ble_eq_true rfl, Nat.le_of_ble_eq_true rfl⟩ ⟨Nat.le_of_ble_eq_true rfl, Nat.le_of_ble_eq_true rfl⟩ eL_law_90 ?_
  refine v_iadd X (pc := 93) eL_law_93 ?_
  refine v_istore X (pc := 94) (lv' := [(8, _), (7, _), (0, _), (1, _), (2, _), (3, _), (4, _), (5, _), (6, _)]) eL_law_94 (Nat.le_of_ble_eq_true rfl) rfl ?_
  refine v_aload_n X (pc := 96) 3 rfl eL_law_96 rfl ?_
  refine v_iload X (pc := 97) 1 rfl eL_law_97 ?_
  refine v_iload X (pc := 99) 0 rfl eL_law_99 ?_
  obtain ⟨r3, m3, hc3, h⟩ := bd_some h
  refine v_callV X (pc := 101) [_, _] [] ok_V_L_91 (cW_safe  hc3) rfl (Nat.le_of_ble_eq_true rfl) ⟨Nat.le_of_ble_eq_true rfl, Nat.le_of_ble_eq_true rfl⟩ ⟨Nat.le_of_ble_eq_true rfl, Nat.le_of_ble_eq_true rfl⟩ (by decide) (by decide) rfl rfl eL_law_101 ?_
  refine v_istore X (pc := 104) (lv' := [(9, _), (8, _), (7, _), (0, _), (1, _), (2, _), (3, _), (4, _), (5, _), (6, _)]) eL_law_104 (Nat.le_of_ble_eq_true rfl) rfl ?_
  refine v_aload_n X (pc := 106) 4 rfl eL_law_106 rfl ?_
  refine v_iload X (pc := 107) 1 rfl eL_law_107 ?_
  obtain ⟨r4, m4, hc4, h⟩ := bd_some h
  refine v_callV X (pc := 109) [_] [] ok_V_L_94 (cW_where  hc4) rfl (Nat.le_of_ble_eq_true rfl) ⟨Nat.le_of_ble_eq_true rfl, Nat.le_of_ble_eq_true rfl⟩ ⟨Nat.le_of_ble_eq_true rfl, Nat.le_of_ble_eq_true rfl⟩ (by decide) (by decide) rfl rfl eL_law_109 ?_
  refine v_istore X (pc := 112) (lv' := [(10, _), (9, _), (8, _), (7, _), (0, _), (1, _), (2, _), (3, _), (4, _), (5, _), (6, _)]) eL_law_112 (Nat.le_of_ble_eq_true rfl) rfl ?_
  refine v_iload X (pc := 114) 0 rfl eL_law_114 ?_
  refine v_ldc X (pc := 116) qw_405 eL_law_116 ?_
  refine v_icmp_ne X (pc := 118) (tgt := 126) h eL_law_118 (by decide) (fun h => ?_) (fun h => ?_)
  · refine v_ldc X (pc := 121) qw_405 eL_law_121 ?_
    refine v_goto X (pc := 123) (tgt := 134) eL_law_123 (by decide) ?_
    exact v_sub [4, 5, 6, 7, 8, 9, 10, 3, 2, 1, 0] rfl (cL_law_134 X hr hk hk44 _ _ _ _ _ _ _ _ _ _  h)
  · refine v_aload_n X (pc := 126) 5 rfl eL_law_126 rfl ?_
    refine v_iload X (pc := 127) 0 rfl eL_law_127 ?_
    refine v_iload X (pc := 129) 2 rfl eL_law_129 ?_
    obtain ⟨r5, m5, hc5, h⟩ := bd_some h
    refine v_callV X (pc := 131) [_, _] [] ok_V_L_91 (cW_safe  hc5) rfl (Nat.le_of_ble_eq_true rfl) ⟨Nat.le_of_ble_eq_true rfl, Nat.le_of_ble_eq_true rfl⟩ ⟨Nat.le_of_ble_eq_true rfl, Nat.le_of_ble_eq_true rfl⟩ (by decide) (by decide) rfl rfl eL_law_131 ?_
    exact v_sub [4, 5, 6, 7, 8, 9, 10, 3, 2, 1, 0] rfl (cL_law_134 X hr hk hk44 _ _ _ _ _ _ _ _ _ _  h)
set_option maxHeartbeats 4000000 in
set_option maxRecDepth 100000 in
theorem cL_law_44 {p : Program} {l : Launch} {e : Env} {s : State} {m : MethodId} {b : Nat} {below : List Frame} {meth : Method} {c : Code} {k : KK} {f : Nat} {mem' : Mem} (X : CX p s m #[Value.ref b] meth c k code 33 "WallShiftsLaw") (hr : meth.sig.returnType = ret) (hk : kh k = s.heap.size) : ∀ (n : Nat) (x3 : Int32) (x4 : Int32) (x5 : Int32) (mem : Mem), dL_law_44 (kL k) (kx k) f n x3 x4 x5 mem = some ((1 : Int32), mem') → V p l e room_1 s m #[Value.ref b] below meth c 600000 7302250 (lw_Z below #[Value.ref b] s) k 33 mem 44 [(0, aR 24 0), (1, aR 0 0), (2, aR 13 0), (3, aI x3), (4, aI x4), (5, aI x5)] [] := by
  intro n
  induction n with
  | zero =>
    intro x3 x4 x5 mem  h
    exact nomatch (show (none : Option (Int32 × Mem)) = some _ from h)
  | succ n ih =>
    intro x3 x4 x5 mem  h
    rw [dL_law_44] at h
    refine v_iload X (pc := 44) 5 rfl eL_law_44 ?_
    refine v_iconst X (pc := 46) (v := (4 : Int32)) eL_law_46 (by decide) ?_
    refine v_icmp_ge X (pc := 47) (tgt := 1128) h eL_law_47 (by decide) (fun h => ?_) (fun h => ?_)
    · refine v_aload_n X (pc := 50) 0 rfl eL_law_50 rfl ?_
      refine v_bipush X (pc := 51) (v := (6 : Int32)) eL_law_51 (by decide) ?_
      refine v_iload X (pc := 53) 5 rfl eL_law_53 ?_
      refine v_iadd X (pc := 55) eL_law_55 ?_
      obtain ⟨r1, m1, hc1, h⟩ := bd_some h
      refine v_callSx X (pc := 56) [_, _] [] ok_S_L_50 (cL_at  hc1) rfl (Nat.le_of_ble_eq_true rfl) ⟨Nat.le_of_ble_eq_true rfl, Nat.le_of_ble_eq_true rfl⟩ ⟨Nat.le_of_ble_eq_true rfl, Nat.le_of_ble_eq_true rfl⟩ eL_law_56 ?_
      refine v_istore X (pc := 59) (lv' := [(6, _), (0, _), (1, _), (2, _), (3, _), (4, _), (5, _)]) eL_law_59 (Nat.le_of_ble_eq_true rfl) rfl ?_
      refine v_iload X (pc := 61) 0 rfl eL_law_61 ?_
      refine v_iload X (pc := 63) 0 rfl eL_law_63 ?_
      refine v_iconst X (pc := 65) (v := (4 : Int32)) eL_law_65 (by decide) ?_
      refine v_ishr X (pc := 66) eL_law_66 ?_
      refine v_iconst X (pc := 67) (v := (1 : Int32)) eL_law_67 (by decide) ?_
      refine v_iand X (pc := 68) eL_law_68 ?_
      refine v_if_ne X (pc := 69) (tgt := 76) h eL_law_69 (by decide) (fun h => ?_) (fun h => ?_)
      · refine v_iconst X (pc := 72) (v := (3 : Int32)) eL_law_72 (by decide) ?_
        refine v_goto X (pc := 73) (tgt := 78) eL_law_73 (by decide) ?_
        exact v_sub [1, 2, 3, 4, 5, 6, 0] rfl (cL_law_78 X hr hk ih _ _ _ _ _ _ _  h)
      · refine v_bipush X (pc := 76) (v := (10 : Int32)) eL_law_76 (by decide) ?_
        exact v_sub [1, 2, 3, 4, 5, 6, 0] rfl (cL_law_78 X hr hk ih _ _ _ _ _ _ _  h)
    · refine v_iconst X (pc := 1128) (v := (1 : Int32)) eL_law_1128 (by decide) ?_
      exact v_lwret X hr hk (pc := 1129) h eL_law_1129
set_option maxHeartbeats 4000000 in
set_option maxRecDepth 100000 in
theorem cL_law_13 {p : Program} {l : Launch} {e : Env} {s : State} {m : MethodId} {b : Nat} {below : List Frame} {meth : Method} {c : Code} {k : KK} {f : Nat} {mem' : Mem} (X : CX p s m #[Value.ref b] meth c k code 33 "WallShiftsLaw") (hr : meth.sig.returnType = ret) (hk : kh k = s.heap.size) : ∀  (mem : Mem), dL_law_13 (kL k) (kx k) f  mem = some ((1 : Int32), mem') → V p l e room_1 s m #[Value.ref b] below meth c 600000 7302250 (lw_Z below #[Value.ref b] s) k 33 mem 13 [(0, aR 24 0), (1, aR 0 0), (2, aR 13 0)] [] := by
  intro  mem  h
  unfold dL_law_13 at h
  refine v_aload_n X (pc := 13) 1 rfl eL_law_13 rfl ?_
  refine v_aload_n X (pc := 14) 0 rfl eL_law_14 rfl ?_
  refine v_aload_n X (pc := 15) 2 rfl eL_law_15 rfl ?_
  obtain ⟨r1, m1, hc1, h⟩ := bd_some h
  refine v_callSx X (pc := 16) [_, _, _] [] ok_S_L_83 (cL_lay  hc1) rfl (Nat.le_of_ble_eq_true rfl) ⟨Nat.le_of_ble_eq_true rfl, Nat.le_of_ble_eq_true rfl⟩ ⟨Nat.le_of_ble_eq_true rfl, Nat.le_of_ble_eq_true rfl⟩ eL_law_16 ?_
  refine v_if_eq X (pc := 19) (tgt := 30) h eL_law_19 (by decide) (fun h => ?_) (fun h => ?_)
  · refine v_iconst X (pc := 30) (v := (0 : Int32)) eL_law_30 (by decide) ?_
    exact absurd (Prod.mk.inj (Option.some.inj h)).1 (by decide)
  · refine v_aload_n X (pc := 22) 1 rfl eL_law_22 rfl ?_
    obtain ⟨r2, m2, hc2, h⟩ := bd_some h
    refine v_callV X (pc := 23) [] [] ok_V_L_87 (cW_image  hc2) rfl (Nat.le_of_ble_eq_true rfl) ⟨Nat.le_of_ble_eq_true rfl, Nat.le_of_ble_eq_true rfl⟩ ⟨Nat.le_of_ble_eq_true rfl, Nat.le_of_ble_eq_true rfl⟩ (by decide) (by decide) rfl rfl eL_law_23 ?_
    refine v_iconst X (pc := 26) (v := (1 : Int32)) eL_law_26 (by decide) ?_
    refine v_icmp_eq X (pc := 27) (tgt := 32) h eL_law_27 (by decide) (fun h => ?_) (fun h => ?_)
    · refine v_aload_n X (pc := 32) 2 rfl eL_law_32 rfl ?_
      refine v_iconst X (pc := 33) (v := (5 : Int32)) eL_law_33 (by decide) ?_
      refine v_ialdK X (pc := 34) (n := 66) 5 (by decide) (by decide) (by decide) (by decide) rfl eL_law_34 ?_
      refine v_istore_n X (pc := 35) (lv' := [(3, _), (0, _), (1, _), (2, _)]) eL_law_35 rfl (Nat.le_of_ble_eq_true rfl) rfl ?_
      refine v_aload_n X (pc := 36) 3 rfl eL_law_36 rfl ?_
      refine v_iconst X (pc := 37) (v := (0 : Int32)) eL_law_37 (by decide) ?_
      refine v_ialdK X (pc := 38) (n := 66) 0 (by decide) (by decide) (by decide) (by decide) rfl eL_law_38 ?_
      refine v_istore X (pc := 39) (lv' := [(4, _), (3, _), (0, _), (1, _), (2, _)]) eL_law_39 (Nat.le_of_ble_eq_true rfl) rfl ?_
      refine v_iconst X (pc := 41) (v := (0 : Int32)) eL_law_41 (by decide) ?_
      refine v_istore X (pc := 42) (lv' := [(5, _), (4, _), (3, _), (0, _), (1, _), (2, _)]) eL_law_42 (Nat.le_of_ble_eq_true rfl) rfl ?_
      exact v_sub [3, 4, 5, 2, 1, 0] rfl (cL_law_44 X hr hk _ _ _ _ _  h)
    · refine v_iconst X (pc := 30) (v := (0 : Int32)) eL_law_30 (by decide) ?_
      exact absurd (Prod.mk.inj (Option.some.inj h)).1 (by decide)
