/-! GENERATED: the law's own helpers: names, decode rows, program texts, walks. -/
abbrev yL_law : MethodName := x
abbrev yL_lay : MethodName := ⟨"WallShiftsLaw", "lay", "(LWallShifts;[I[I)Z"⟩
abbrev yL_at : MethodName := ⟨"WallShiftsLaw", "at", "([II)I"⟩
abbrev yL_mod : MethodName := ⟨"WallShiftsLaw", "mod", "(II)I"⟩
abbrev yL_wall : MethodName := ⟨"WallShiftsLaw", "wall", "(LWallShifts;[IIII)Z"⟩
abbrev yL_minute : MethodName := ⟨"WallShiftsLaw", "minute", "([I)V"⟩
abbrev yL_isUnheard : MethodName := ⟨"WallShiftsLaw", "isUnheard", "(LWallShifts;II)Z"⟩
abbrev yL_ones : MethodName := ⟨"WallShiftsLaw", "ones", "(I)I"⟩
abbrev yL_isSo : MethodName := ⟨"WallShiftsLaw", "isSo", "(LWallShifts;[I)Z"⟩
abbrev yL_duty : MethodName := ⟨"WallShiftsLaw", "duty", "([III)Z"⟩
abbrev yL_tires : MethodName := ⟨"WallShiftsLaw", "tires", "([II)I"⟩
abbrev yL_reach : MethodName := ⟨"WallShiftsLaw", "reach", "([II)I"⟩
theorem qw_333 : Cond.code yL_at method_3_code 2 (Option.some Jvm.ClassFile.FieldType.int) ∈ wG := wG_mem (i := 333) (by decide +kernel) (by decide +kernel)
theorem qw_6 : Cond.initialized yL_at.cls ∈ wG := wG_mem (i := 6) (by decide +kernel) (by decide +kernel)
theorem qw_331 : Cond.methodLink "WallShiftsLaw" 50 yL_at ∈ wG := wG_mem (i := 331) (by decide +kernel) (by decide +kernel)
theorem qw_332 : Cond.static yL_at ∈ wG := wG_mem (i := 332) (by decide +kernel) (by decide +kernel)
theorem qw_330 : Cond.code yL_mod method_2_code 3 (Option.some Jvm.ClassFile.FieldType.int) ∈ wG := wG_mem (i := 330) (by decide +kernel) (by decide +kernel)
theorem qw_328 : Cond.methodLink "WallShiftsLaw" 52 yL_mod ∈ wG := wG_mem (i := 328) (by decide +kernel) (by decide +kernel)
theorem qw_329 : Cond.static yL_mod ∈ wG := wG_mem (i := 329) (by decide +kernel) (by decide +kernel)
theorem qw_124 : Cond.code yW_rota prog_1_method_2_code 4 (Option.some Jvm.ClassFile.FieldType.int) ∈ wG := wG_mem (i := 124) (by decide +kernel) (by decide +kernel)
theorem qw_121 : Cond.methodLink "WallShiftsLaw" 56 yW_rota ∈ wG := wG_mem (i := 121) (by decide +kernel) (by decide +kernel)
theorem qw_122 : Cond.instanceMethod yW_rota ∈ wG := wG_mem (i := 122) (by decide +kernel) (by decide +kernel)
theorem qw_123 : Cond.selects yW_rota.cls yW_rota yW_rota ∈ wG := wG_mem (i := 123) (by decide +kernel) (by decide +kernel)
theorem qw_346 : Cond.code yW_wall prog_1_method_3_code 4 (Option.some Jvm.ClassFile.FieldType.int) ∈ wG := wG_mem (i := 346) (by decide +kernel) (by decide +kernel)
theorem qw_343 : Cond.methodLink "WallShiftsLaw" 44 yW_wall ∈ wG := wG_mem (i := 343) (by decide +kernel) (by decide +kernel)
theorem qw_344 : Cond.instanceMethod yW_wall ∈ wG := wG_mem (i := 344) (by decide +kernel) (by decide +kernel)
theorem qw_345 : Cond.selects yW_wall.cls yW_wall yW_wall ∈ wG := wG_mem (i := 345) (by decide +kernel) (by decide +kernel)
theorem qw_342 : Cond.code yL_wall method_17_code 6 (Option.some Jvm.ClassFile.FieldType.boolean) ∈ wG := wG_mem (i := 342) (by decide +kernel) (by decide +kernel)
theorem qw_340 : Cond.methodLink "WallShiftsLaw" 59 yL_wall ∈ wG := wG_mem (i := 340) (by decide +kernel) (by decide +kernel)
theorem qw_341 : Cond.static yL_wall ∈ wG := wG_mem (i := 341) (by decide +kernel) (by decide +kernel)
theorem qw_143 : Cond.code yW_set prog_1_method_5_code 4 (Option.some Jvm.ClassFile.FieldType.int) ∈ wG := wG_mem (i := 143) (by decide +kernel) (by decide +kernel)
theorem qw_140 : Cond.methodLink "WallShiftsLaw" 62 yW_set ∈ wG := wG_mem (i := 140) (by decide +kernel) (by decide +kernel)
theorem qw_141 : Cond.instanceMethod yW_set ∈ wG := wG_mem (i := 141) (by decide +kernel) (by decide +kernel)
theorem qw_142 : Cond.selects yW_set.cls yW_set yW_set ∈ wG := wG_mem (i := 142) (by decide +kernel) (by decide +kernel)
theorem qw_359 : Cond.constant "WallShiftsLaw" 65 (65536 : Int32) ∈ wG := wG_mem (i := 359) (by decide +kernel) (by decide +kernel)
theorem qw_362 : Cond.code yL_minute method_10_code 2 (Option.none : Option Jvm.ClassFile.FieldType) ∈ wG := wG_mem (i := 362) (by decide +kernel) (by decide +kernel)
theorem qw_360 : Cond.methodLink "WallShiftsLaw" 34 yL_minute ∈ wG := wG_mem (i := 360) (by decide +kernel) (by decide +kernel)
theorem qw_361 : Cond.static yL_minute ∈ wG := wG_mem (i := 361) (by decide +kernel) (by decide +kernel)
theorem qw_210 : Cond.code yW_pass prog_1_method_10_code 3 (Option.some Jvm.ClassFile.FieldType.int) ∈ wG := wG_mem (i := 210) (by decide +kernel) (by decide +kernel)
theorem qw_207 : Cond.methodLink "WallShiftsLaw" 66 yW_pass ∈ wG := wG_mem (i := 207) (by decide +kernel) (by decide +kernel)
theorem qw_208 : Cond.instanceMethod yW_pass ∈ wG := wG_mem (i := 208) (by decide +kernel) (by decide +kernel)
theorem qw_209 : Cond.selects yW_pass.cls yW_pass yW_pass ∈ wG := wG_mem (i := 209) (by decide +kernel) (by decide +kernel)
theorem qw_339 : Cond.code yL_lay method_18_code 10 (Option.some Jvm.ClassFile.FieldType.boolean) ∈ wG := wG_mem (i := 339) (by decide +kernel) (by decide +kernel)
theorem qw_337 : Cond.methodLink "WallShiftsLaw" 83 yL_lay ∈ wG := wG_mem (i := 337) (by decide +kernel) (by decide +kernel)
theorem qw_338 : Cond.static yL_lay ∈ wG := wG_mem (i := 338) (by decide +kernel) (by decide +kernel)
theorem qw_323 : Cond.code yW_image prog_1_method_34_code 1 (Option.some Jvm.ClassFile.FieldType.int) ∈ wG := wG_mem (i := 323) (by decide +kernel) (by decide +kernel)
theorem qw_320 : Cond.methodLink "WallShiftsLaw" 87 yW_image ∈ wG := wG_mem (i := 320) (by decide +kernel) (by decide +kernel)
theorem qw_321 : Cond.instanceMethod yW_image ∈ wG := wG_mem (i := 321) (by decide +kernel) (by decide +kernel)
theorem qw_322 : Cond.selects yW_image.cls yW_image yW_image ∈ wG := wG_mem (i := 322) (by decide +kernel) (by decide +kernel)
theorem qw_259 : Cond.code yW_safe prog_1_method_16_code 4 (Option.some Jvm.ClassFile.FieldType.int) ∈ wG := wG_mem (i := 259) (by decide +kernel) (by decide +kernel)
theorem qw_256 : Cond.methodLink "WallShiftsLaw" 91 yW_safe ∈ wG := wG_mem (i := 256) (by decide +kernel) (by decide +kernel)
theorem qw_257 : Cond.instanceMethod yW_safe ∈ wG := wG_mem (i := 257) (by decide +kernel) (by decide +kernel)
theorem qw_258 : Cond.selects yW_safe.cls yW_safe yW_safe ∈ wG := wG_mem (i := 258) (by decide +kernel) (by decide +kernel)
theorem qw_272 : Cond.code yW_where prog_1_method_17_code 6 (Option.some Jvm.ClassFile.FieldType.int) ∈ wG := wG_mem (i := 272) (by decide +kernel) (by decide +kernel)
theorem qw_269 : Cond.methodLink "WallShiftsLaw" 94 yW_where ∈ wG := wG_mem (i := 269) (by decide +kernel) (by decide +kernel)
theorem qw_270 : Cond.instanceMethod yW_where ∈ wG := wG_mem (i := 270) (by decide +kernel) (by decide +kernel)
theorem qw_271 : Cond.selects yW_where.cls yW_where yW_where ∈ wG := wG_mem (i := 271) (by decide +kernel) (by decide +kernel)
theorem qw_405 : Cond.constant "WallShiftsLaw" 97 (-1000000004 : Int32) ∈ wG := wG_mem (i := 405) (by decide +kernel) (by decide +kernel)
theorem qw_276 : Cond.code yW_quiet prog_1_method_18_code 3 (Option.some Jvm.ClassFile.FieldType.int) ∈ wG := wG_mem (i := 276) (by decide +kernel) (by decide +kernel)
theorem qw_273 : Cond.methodLink "WallShiftsLaw" 98 yW_quiet ∈ wG := wG_mem (i := 273) (by decide +kernel) (by decide +kernel)
theorem qw_274 : Cond.instanceMethod yW_quiet ∈ wG := wG_mem (i := 274) (by decide +kernel) (by decide +kernel)
theorem qw_275 : Cond.selects yW_quiet.cls yW_quiet yW_quiet ∈ wG := wG_mem (i := 275) (by decide +kernel) (by decide +kernel)
theorem qw_284 : Cond.code yW_worst prog_1_method_19_code 8 (Option.some Jvm.ClassFile.FieldType.int) ∈ wG := wG_mem (i := 284) (by decide +kernel) (by decide +kernel)
theorem qw_281 : Cond.methodLink "WallShiftsLaw" 101 yW_worst ∈ wG := wG_mem (i := 281) (by decide +kernel) (by decide +kernel)
theorem qw_282 : Cond.instanceMethod yW_worst ∈ wG := wG_mem (i := 282) (by decide +kernel) (by decide +kernel)
theorem qw_283 : Cond.selects yW_worst.cls yW_worst yW_worst ∈ wG := wG_mem (i := 283) (by decide +kernel) (by decide +kernel)
theorem qw_292 : Cond.code yW_cover prog_1_method_20_code 7 (Option.some Jvm.ClassFile.FieldType.int) ∈ wG := wG_mem (i := 292) (by decide +kernel) (by decide +kernel)
theorem qw_289 : Cond.methodLink "WallShiftsLaw" 104 yW_cover ∈ wG := wG_mem (i := 289) (by decide +kernel) (by decide +kernel)
theorem qw_290 : Cond.instanceMethod yW_cover ∈ wG := wG_mem (i := 290) (by decide +kernel) (by decide +kernel)
theorem qw_291 : Cond.selects yW_cover.cls yW_cover yW_cover ∈ wG := wG_mem (i := 291) (by decide +kernel) (by decide +kernel)
theorem qw_300 : Cond.code yW_shift prog_1_method_21_code 8 (Option.some Jvm.ClassFile.FieldType.int) ∈ wG := wG_mem (i := 300) (by decide +kernel) (by decide +kernel)
theorem qw_297 : Cond.methodLink "WallShiftsLaw" 107 yW_shift ∈ wG := wG_mem (i := 297) (by decide +kernel) (by decide +kernel)
theorem qw_298 : Cond.instanceMethod yW_shift ∈ wG := wG_mem (i := 298) (by decide +kernel) (by decide +kernel)
theorem qw_299 : Cond.selects yW_shift.cls yW_shift yW_shift ∈ wG := wG_mem (i := 299) (by decide +kernel) (by decide +kernel)
theorem qw_304 : Cond.code yW_side prog_1_method_22_code 9 (Option.some Jvm.ClassFile.FieldType.int) ∈ wG := wG_mem (i := 304) (by decide +kernel) (by decide +kernel)
theorem qw_301 : Cond.methodLink "WallShiftsLaw" 110 yW_side ∈ wG := wG_mem (i := 301) (by decide +kernel) (by decide +kernel)
theorem qw_302 : Cond.instanceMethod yW_side ∈ wG := wG_mem (i := 302) (by decide +kernel) (by decide +kernel)
theorem qw_303 : Cond.selects yW_side.cls yW_side yW_side ∈ wG := wG_mem (i := 303) (by decide +kernel) (by decide +kernel)
theorem qw_385 : Cond.code yW_reach prog_1_method_12_code 2 (Option.some Jvm.ClassFile.FieldType.int) ∈ wG := wG_mem (i := 385) (by decide +kernel) (by decide +kernel)
theorem qw_382 : Cond.methodLink "WallShiftsLaw" 72 yW_reach ∈ wG := wG_mem (i := 382) (by decide +kernel) (by decide +kernel)
theorem qw_383 : Cond.instanceMethod yW_reach ∈ wG := wG_mem (i := 383) (by decide +kernel) (by decide +kernel)
theorem qw_384 : Cond.selects yW_reach.cls yW_reach yW_reach ∈ wG := wG_mem (i := 384) (by decide +kernel) (by decide +kernel)
theorem qw_393 : Cond.code yW_count prog_1_method_37_code 2 (Option.some Jvm.ClassFile.FieldType.int) ∈ wG := wG_mem (i := 393) (by decide +kernel) (by decide +kernel)
theorem qw_390 : Cond.methodLink "WallShiftsLaw" 79 yW_count ∈ wG := wG_mem (i := 390) (by decide +kernel) (by decide +kernel)
theorem qw_391 : Cond.instanceMethod yW_count ∈ wG := wG_mem (i := 391) (by decide +kernel) (by decide +kernel)
theorem qw_392 : Cond.selects yW_count.cls yW_count yW_count ∈ wG := wG_mem (i := 392) (by decide +kernel) (by decide +kernel)
theorem qw_369 : Cond.code yW_of prog_1_method_4_code 4 (Option.some Jvm.ClassFile.FieldType.int) ∈ wG := wG_mem (i := 369) (by decide +kernel) (by decide +kernel)
theorem qw_366 : Cond.methodLink "WallShiftsLaw" 69 yW_of ∈ wG := wG_mem (i := 366) (by decide +kernel) (by decide +kernel)
theorem qw_367 : Cond.instanceMethod yW_of ∈ wG := wG_mem (i := 367) (by decide +kernel) (by decide +kernel)
theorem qw_368 : Cond.selects yW_of.cls yW_of yW_of ∈ wG := wG_mem (i := 368) (by decide +kernel) (by decide +kernel)
theorem qw_404 : Cond.code yL_isUnheard method_20_code 5 (Option.some Jvm.ClassFile.FieldType.boolean) ∈ wG := wG_mem (i := 404) (by decide +kernel) (by decide +kernel)
theorem qw_402 : Cond.methodLink "WallShiftsLaw" 113 yL_isUnheard ∈ wG := wG_mem (i := 402) (by decide +kernel) (by decide +kernel)
theorem qw_403 : Cond.static yL_isUnheard ∈ wG := wG_mem (i := 403) (by decide +kernel) (by decide +kernel)
theorem qw_327 : Cond.code yW_undo prog_1_method_35_code 1 (Option.some Jvm.ClassFile.FieldType.int) ∈ wG := wG_mem (i := 327) (by decide +kernel) (by decide +kernel)
theorem qw_324 : Cond.methodLink "WallShiftsLaw" 117 yW_undo ∈ wG := wG_mem (i := 324) (by decide +kernel) (by decide +kernel)
theorem qw_325 : Cond.instanceMethod yW_undo ∈ wG := wG_mem (i := 325) (by decide +kernel) (by decide +kernel)
theorem qw_326 : Cond.selects yW_undo.cls yW_undo yW_undo ∈ wG := wG_mem (i := 326) (by decide +kernel) (by decide +kernel)
theorem qw_247 : Cond.code yW_now prog_1_method_14_code 2 (Option.some Jvm.ClassFile.FieldType.int) ∈ wG := wG_mem (i := 247) (by decide +kernel) (by decide +kernel)
theorem qw_244 : Cond.methodLink "WallShiftsLaw" 74 yW_now ∈ wG := wG_mem (i := 244) (by decide +kernel) (by decide +kernel)
theorem qw_245 : Cond.instanceMethod yW_now ∈ wG := wG_mem (i := 245) (by decide +kernel) (by decide +kernel)
theorem qw_246 : Cond.selects yW_now.cls yW_now yW_now ∈ wG := wG_mem (i := 246) (by decide +kernel) (by decide +kernel)
theorem qw_315 : Cond.code yW_lost prog_1_method_23_code 3 (Option.some Jvm.ClassFile.FieldType.int) ∈ wG := wG_mem (i := 315) (by decide +kernel) (by decide +kernel)
theorem qw_312 : Cond.methodLink "WallShiftsLaw" 120 yW_lost ∈ wG := wG_mem (i := 312) (by decide +kernel) (by decide +kernel)
theorem qw_313 : Cond.instanceMethod yW_lost ∈ wG := wG_mem (i := 313) (by decide +kernel) (by decide +kernel)
theorem qw_314 : Cond.selects yW_lost.cls yW_lost yW_lost ∈ wG := wG_mem (i := 314) (by decide +kernel) (by decide +kernel)
theorem qw_319 : Cond.code yW_best prog_1_method_24_code 6 (Option.some Jvm.ClassFile.FieldType.int) ∈ wG := wG_mem (i := 319) (by decide +kernel) (by decide +kernel)
theorem qw_316 : Cond.methodLink "WallShiftsLaw" 123 yW_best ∈ wG := wG_mem (i := 316) (by decide +kernel) (by decide +kernel)
theorem qw_317 : Cond.instanceMethod yW_best ∈ wG := wG_mem (i := 317) (by decide +kernel) (by decide +kernel)
theorem qw_318 : Cond.selects yW_best.cls yW_best yW_best ∈ wG := wG_mem (i := 318) (by decide +kernel) (by decide +kernel)
theorem qw_242 : Cond.code yW_duty prog_1_method_13_code 2 (Option.some Jvm.ClassFile.FieldType.int) ∈ wG := wG_mem (i := 242) (by decide +kernel) (by decide +kernel)
theorem qw_239 : Cond.methodLink "WallShiftsLaw" 77 yW_duty ∈ wG := wG_mem (i := 239) (by decide +kernel) (by decide +kernel)
theorem qw_240 : Cond.instanceMethod yW_duty ∈ wG := wG_mem (i := 240) (by decide +kernel) (by decide +kernel)
theorem qw_241 : Cond.selects yW_duty.cls yW_duty yW_duty ∈ wG := wG_mem (i := 241) (by decide +kernel) (by decide +kernel)
theorem qw_157 : Cond.code yW_say prog_1_method_9_code 3 (Option.some Jvm.ClassFile.FieldType.int) ∈ wG := wG_mem (i := 157) (by decide +kernel) (by decide +kernel)
theorem qw_154 : Cond.methodLink "WallShiftsLaw" 126 yW_say ∈ wG := wG_mem (i := 154) (by decide +kernel) (by decide +kernel)
theorem qw_155 : Cond.instanceMethod yW_say ∈ wG := wG_mem (i := 155) (by decide +kernel) (by decide +kernel)
theorem qw_156 : Cond.selects yW_say.cls yW_say yW_say ∈ wG := wG_mem (i := 156) (by decide +kernel) (by decide +kernel)
theorem qw_336 : Cond.code yL_ones method_11_code 3 (Option.some Jvm.ClassFile.FieldType.int) ∈ wG := wG_mem (i := 336) (by decide +kernel) (by decide +kernel)
theorem qw_334 : Cond.methodLink "WallShiftsLaw" 30 yL_ones ∈ wG := wG_mem (i := 334) (by decide +kernel) (by decide +kernel)
theorem qw_335 : Cond.static yL_ones ∈ wG := wG_mem (i := 335) (by decide +kernel) (by decide +kernel)
theorem qw_220 : Cond.code yW_speak prog_1_method_11_code 3 (Option.some Jvm.ClassFile.FieldType.int) ∈ wG := wG_mem (i := 220) (by decide +kernel) (by decide +kernel)
theorem qw_217 : Cond.methodLink "WallShiftsLaw" 128 yW_speak ∈ wG := wG_mem (i := 217) (by decide +kernel) (by decide +kernel)
theorem qw_218 : Cond.instanceMethod yW_speak ∈ wG := wG_mem (i := 218) (by decide +kernel) (by decide +kernel)
theorem qw_219 : Cond.selects yW_speak.cls yW_speak yW_speak ∈ wG := wG_mem (i := 219) (by decide +kernel) (by decide +kernel)
theorem qw_378 : Cond.code yL_duty method_4_code 7 (Option.some Jvm.ClassFile.FieldType.boolean) ∈ wG := wG_mem (i := 378) (by decide +kernel) (by decide +kernel)
theorem qw_376 : Cond.methodLink "WallShiftsLaw" 17 yL_duty ∈ wG := wG_mem (i := 376) (by decide +kernel) (by decide +kernel)
theorem qw_377 : Cond.static yL_duty ∈ wG := wG_mem (i := 377) (by decide +kernel) (by decide +kernel)
theorem qw_381 : Cond.code yL_tires method_6_code 3 (Option.some Jvm.ClassFile.FieldType.int) ∈ wG := wG_mem (i := 381) (by decide +kernel) (by decide +kernel)
theorem qw_379 : Cond.methodLink "WallShiftsLaw" 24 yL_tires ∈ wG := wG_mem (i := 379) (by decide +kernel) (by decide +kernel)
theorem qw_380 : Cond.static yL_tires ∈ wG := wG_mem (i := 380) (by decide +kernel) (by decide +kernel)
theorem qw_389 : Cond.code yL_reach method_7_code 6 (Option.some Jvm.ClassFile.FieldType.int) ∈ wG := wG_mem (i := 389) (by decide +kernel) (by decide +kernel)
theorem qw_387 : Cond.methodLink "WallShiftsLaw" 7 yL_reach ∈ wG := wG_mem (i := 387) (by decide +kernel) (by decide +kernel)
theorem qw_388 : Cond.static yL_reach ∈ wG := wG_mem (i := 388) (by decide +kernel) (by decide +kernel)
theorem qw_365 : Cond.code yL_isSo method_19_code 10 (Option.some Jvm.ClassFile.FieldType.boolean) ∈ wG := wG_mem (i := 365) (by decide +kernel) (by decide +kernel)
theorem qw_363 : Cond.methodLink "WallShiftsLaw" 131 yL_isSo ∈ wG := wG_mem (i := 363) (by decide +kernel) (by decide +kernel)
theorem qw_364 : Cond.static yL_isSo ∈ wG := wG_mem (i := 364) (by decide +kernel) (by decide +kernel)
theorem ok_S_L_50 : okS "WallShiftsLaw" 50 yL_at method_3_code 2 (Option.some Jvm.ClassFile.FieldType.int) 2 := okS_of qw_331 qw_332 qw_6 qw_333 ⟨by decide +kernel, by decide +kernel, by decide +kernel⟩
theorem ok_S_L_52 : okS "WallShiftsLaw" 52 yL_mod method_2_code 3 (Option.some Jvm.ClassFile.FieldType.int) 2 := okS_of qw_328 qw_329 qw_6 qw_330 ⟨by decide +kernel, by decide +kernel, by decide +kernel⟩
theorem ok_V_L_56 : okV "WallShiftsLaw" 56 yW_rota prog_1_method_2_code 4 (Option.some Jvm.ClassFile.FieldType.int) 2 := okV_of qw_121 qw_122 qw_123 qw_7 qw_124 ⟨by decide +kernel, by decide +kernel, by decide +kernel⟩
theorem ok_V_L_44 : okV "WallShiftsLaw" 44 yW_wall prog_1_method_3_code 4 (Option.some Jvm.ClassFile.FieldType.int) 3 := okV_of qw_343 qw_344 qw_345 qw_7 qw_346 ⟨by decide +kernel, by decide +kernel, by decide +kernel⟩
theorem ok_S_L_59 : okS "WallShiftsLaw" 59 yL_wall method_17_code 6 (Option.some Jvm.ClassFile.FieldType.boolean) 5 := okS_of qw_340 qw_341 qw_6 qw_342 ⟨by decide +kernel, by decide +kernel, by decide +kernel⟩
theorem ok_V_L_62 : okV "WallShiftsLaw" 62 yW_set prog_1_method_5_code 4 (Option.some Jvm.ClassFile.FieldType.int) 3 := okV_of qw_140 qw_141 qw_142 qw_7 qw_143 ⟨by decide +kernel, by decide +kernel, by decide +kernel⟩
theorem ok_S_L_34 : okS "WallShiftsLaw" 34 yL_minute method_10_code 2 (Option.none : Option Jvm.ClassFile.FieldType) 1 := okS_of qw_360 qw_361 qw_6 qw_362 ⟨by decide +kernel, by decide +kernel, by decide +kernel⟩
theorem ok_V_L_66 : okV "WallShiftsLaw" 66 yW_pass prog_1_method_10_code 3 (Option.some Jvm.ClassFile.FieldType.int) 1 := okV_of qw_207 qw_208 qw_209 qw_7 qw_210 ⟨by decide +kernel, by decide +kernel, by decide +kernel⟩
theorem ok_S_L_83 : okS "WallShiftsLaw" 83 yL_lay method_18_code 10 (Option.some Jvm.ClassFile.FieldType.boolean) 3 := okS_of qw_337 qw_338 qw_6 qw_339 ⟨by decide +kernel, by decide +kernel, by decide +kernel⟩
theorem ok_V_L_87 : okV "WallShiftsLaw" 87 yW_image prog_1_method_34_code 1 (Option.some Jvm.ClassFile.FieldType.int) 0 := okV_of qw_320 qw_321 qw_322 qw_7 qw_323 ⟨by decide +kernel, by decide +kernel, by decide +kernel⟩
theorem ok_V_L_91 : okV "WallShiftsLaw" 91 yW_safe prog_1_method_16_code 4 (Option.some Jvm.ClassFile.FieldType.int) 2 := okV_of qw_256 qw_257 qw_258 qw_7 qw_259 ⟨by decide +kernel, by decide +kernel, by decide +kernel⟩
theorem ok_V_L_94 : okV "WallShiftsLaw" 94 yW_where prog_1_method_17_code 6 (Option.some Jvm.ClassFile.FieldType.int) 1 := okV_of qw_269 qw_270 qw_271 qw_7 qw_272 ⟨by decide +kernel, by decide +kernel, by decide +kernel⟩
theorem ok_V_L_98 : okV "WallShiftsLaw" 98 yW_quiet prog_1_method_18_code 3 (Option.some Jvm.ClassFile.FieldType.int) 2 := okV_of qw_273 qw_274 qw_275 qw_7 qw_276 ⟨by decide +kernel, by decide +kernel, by decide +kernel⟩
theorem ok_V_L_101 : okV "WallShiftsLaw" 101 yW_worst prog_1_method_19_code 8 (Option.some Jvm.ClassFile.FieldType.int) 2 := okV_of qw_281 qw_282 qw_283 qw_7 qw_284 ⟨by decide +kernel, by decide +kernel, by decide +kernel⟩
theorem ok_V_L_104 : okV "WallShiftsLaw" 104 yW_cover prog_1_method_20_code 7 (Option.some Jvm.ClassFile.FieldType.int) 2 := okV_of qw_289 qw_290 qw_291 qw_7 qw_292 ⟨by decide +kernel, by decide +kernel, by decide +kernel⟩
theorem ok_V_L_107 : okV "WallShiftsLaw" 107 yW_shift prog_1_method_21_code 8 (Option.some Jvm.ClassFile.FieldType.int) 2 := okV_of qw_297 qw_298 qw_299 qw_7 qw_300 ⟨by decide +kernel, by decide +kernel, by decide +kernel⟩
theorem ok_V_L_110 : okV "WallShiftsLaw" 110 yW_side prog_1_method_22_code 9 (Option.some Jvm.ClassFile.FieldType.int) 3 := okV_of qw_301 qw_302 qw_303 qw_7 qw_304 ⟨by decide +kernel, by decide +kernel, by decide +kernel⟩
theorem ok_V_L_72 : okV "WallShiftsLaw" 72 yW_reach prog_1_method_12_code 2 (Option.some Jvm.ClassFile.FieldType.int) 1 := okV_of qw_382 qw_383 qw_384 qw_7 qw_385 ⟨by decide +kernel, by decide +kernel, by decide +kernel⟩
theorem ok_V_L_79 : okV "WallShiftsLaw" 79 yW_count prog_1_method_37_code 2 (Option.some Jvm.ClassFile.FieldType.int) 1 := okV_of qw_390 qw_391 qw_392 qw_7 qw_393 ⟨by decide +kernel, by decide +kernel, by decide +kernel⟩
theorem ok_V_L_69 : okV "WallShiftsLaw" 69 yW_of prog_1_method_4_code 4 (Option.some Jvm.ClassFile.FieldType.int) 2 := okV_of qw_366 qw_367 qw_368 qw_7 qw_369 ⟨by decide +kernel, by decide +kernel, by decide +kernel⟩
theorem ok_S_L_113 : okS "WallShiftsLaw" 113 yL_isUnheard method_20_code 5 (Option.some Jvm.ClassFile.FieldType.boolean) 3 := okS_of qw_402 qw_403 qw_6 qw_404 ⟨by decide +kernel, by decide +kernel, by decide +kernel⟩
theorem ok_V_L_117 : okV "WallShiftsLaw" 117 yW_undo prog_1_method_35_code 1 (Option.some Jvm.ClassFile.FieldType.int) 0 := okV_of qw_324 qw_325 qw_326 qw_7 qw_327 ⟨by decide +kernel, by decide +kernel, by decide +kernel⟩
theorem ok_V_L_74 : okV "WallShiftsLaw" 74 yW_now prog_1_method_14_code 2 (Option.some Jvm.ClassFile.FieldType.int) 1 := okV_of qw_244 qw_245 qw_246 qw_7 qw_247 ⟨by decide +kernel, by decide +kernel, by decide +kernel⟩
theorem ok_V_L_120 : okV "WallShiftsLaw" 120 yW_lost prog_1_method_23_code 3 (Option.some Jvm.ClassFile.FieldType.int) 2 := okV_of qw_312 qw_313 qw_314 qw_7 qw_315 ⟨by decide +kernel, by decide +kernel, by decide +kernel⟩
theorem ok_V_L_123 : okV "WallShiftsLaw" 123 yW_best prog_1_method_24_code 6 (Option.some Jvm.ClassFile.FieldType.int) 1 := okV_of qw_316 qw_317 qw_318 qw_7 qw_319 ⟨by decide +kernel, by decide +kernel, by decide +kernel⟩
theorem ok_V_L_77 : okV "WallShiftsLaw" 77 yW_duty prog_1_method_13_code 2 (Option.some Jvm.ClassFile.FieldType.int) 1 := okV_of qw_239 qw_240 qw_241 qw_7 qw_242 ⟨by decide +kernel, by decide +kernel, by decide +kernel⟩
theorem ok_V_L_126 : okV "WallShiftsLaw" 126 yW_say prog_1_method_9_code 3 (Option.some Jvm.ClassFile.FieldType.int) 2 := okV_of qw_154 qw_155 qw_156 qw_7 qw_157 ⟨by decide +kernel, by decide +kernel, by decide +kernel⟩
theorem ok_S_L_30 : okS "WallShiftsLaw" 30 yL_ones method_11_code 3 (Option.some Jvm.ClassFile.FieldType.int) 1 := okS_of qw_334 qw_335 qw_6 qw_336 ⟨by decide +kernel, by decide +kernel, by decide +kernel⟩
theorem ok_V_L_128 : okV "WallShiftsLaw" 128 yW_speak prog_1_method_11_code 3 (Option.some Jvm.ClassFile.FieldType.int) 2 := okV_of qw_217 qw_218 qw_219 qw_7 qw_220 ⟨by decide +kernel, by decide +kernel, by decide +kernel⟩
theorem ok_S_L_17 : okS "WallShiftsLaw" 17 yL_duty method_4_code 7 (Option.some Jvm.ClassFile.FieldType.boolean) 3 := okS_of qw_376 qw_377 qw_6 qw_378 ⟨by decide +kernel, by decide +kernel, by decide +kernel⟩
theorem ok_S_L_24 : okS "WallShiftsLaw" 24 yL_tires method_6_code 3 (Option.some Jvm.ClassFile.FieldType.int) 2 := okS_of qw_379 qw_380 qw_6 qw_381 ⟨by decide +kernel, by decide +kernel, by decide +kernel⟩
theorem ok_S_L_7 : okS "WallShiftsLaw" 7 yL_reach method_7_code 6 (Option.some Jvm.ClassFile.FieldType.int) 2 := okS_of qw_387 qw_388 qw_6 qw_389 ⟨by decide +kernel, by decide +kernel, by decide +kernel⟩
theorem ok_S_L_131 : okS "WallShiftsLaw" 131 yL_isSo method_19_code 10 (Option.some Jvm.ClassFile.FieldType.boolean) 2 := okS_of qw_363 qw_364 qw_6 qw_365 ⟨by decide +kernel, by decide +kernel, by decide +kernel⟩
theorem eL_lay_0 : decode method_18_code 0 = .ok (.aload_n 1, 1) := by decide +kernel
theorem eL_lay_1 : decode method_18_code 1 = .ok (.iconst 0, 1) := by decide +kernel
theorem eL_lay_2 : decode method_18_code 2 = .ok (.invokestatic 50, 3) := by decide +kernel
theorem eL_lay_5 : decode method_18_code 5 = .ok (.istore_n 3, 1) := by decide +kernel
theorem eL_lay_6 : decode method_18_code 6 = .ok (.aload_n 2, 1) := by decide +kernel
theorem eL_lay_7 : decode method_18_code 7 = .ok (.iconst 1, 1) := by decide +kernel
theorem eL_lay_8 : decode method_18_code 8 = .ok (.iconst 1, 1) := by decide +kernel
theorem eL_lay_9 : decode method_18_code 9 = .ok (.iload_n 3, 1) := by decide +kernel
theorem eL_lay_10 : decode method_18_code 10 = .ok (.iload_n 3, 1) := by decide +kernel
theorem eL_lay_11 : decode method_18_code 11 = .ok (.iconst 3, 1) := by decide +kernel
theorem eL_lay_12 : decode method_18_code 12 = .ok (.ishr, 1) := by decide +kernel
theorem eL_lay_13 : decode method_18_code 13 = .ok (.iconst 3, 1) := by decide +kernel
theorem eL_lay_14 : decode method_18_code 14 = .ok (.iand, 1) := by decide +kernel
theorem eL_lay_15 : decode method_18_code 15 = .ok (.ifCond .ne 8, 3) := by decide +kernel
theorem eL_lay_18 : decode method_18_code 18 = .ok (.bipush 60, 2) := by decide +kernel
theorem eL_lay_20 : decode method_18_code 20 = .ok (.goto 5, 3) := by decide +kernel
theorem eL_lay_23 : decode method_18_code 23 = .ok (.bipush 9, 2) := by decide +kernel
theorem eL_lay_25 : decode method_18_code 25 = .ok (.invokestatic 52, 3) := by decide +kernel
theorem eL_lay_28 : decode method_18_code 28 = .ok (.iadd, 1) := by decide +kernel
theorem eL_lay_29 : decode method_18_code 29 = .ok (.iastore, 1) := by decide +kernel
theorem eL_lay_30 : decode method_18_code 30 = .ok (.aload_n 2, 1) := by decide +kernel
theorem eL_lay_31 : decode method_18_code 31 = .ok (.iconst 2, 1) := by decide +kernel
theorem eL_lay_32 : decode method_18_code 32 = .ok (.iload_n 3, 1) := by decide +kernel
theorem eL_lay_33 : decode method_18_code 33 = .ok (.iconst 5, 1) := by decide +kernel
theorem eL_lay_34 : decode method_18_code 34 = .ok (.ishr, 1) := by decide +kernel
theorem eL_lay_35 : decode method_18_code 35 = .ok (.iload_n 3, 1) := by decide +kernel
theorem eL_lay_36 : decode method_18_code 36 = .ok (.bipush 7, 2) := by decide +kernel
theorem eL_lay_38 : decode method_18_code 38 = .ok (.ishr, 1) := by decide +kernel
theorem eL_lay_39 : decode method_18_code 39 = .ok (.iconst 3, 1) := by decide +kernel
theorem eL_lay_40 : decode method_18_code 40 = .ok (.iand, 1) := by decide +kernel
theorem eL_lay_41 : decode method_18_code 41 = .ok (.ifCond .ne 8, 3) := by decide +kernel
theorem eL_lay_44 : decode method_18_code 44 = .ok (.bipush 12, 2) := by decide +kernel
theorem eL_lay_46 : decode method_18_code 46 = .ok (.goto 4, 3) := by decide +kernel
theorem eL_lay_49 : decode method_18_code 49 = .ok (.iconst 3, 1) := by decide +kernel
theorem eL_lay_50 : decode method_18_code 50 = .ok (.invokestatic 52, 3) := by decide +kernel
theorem eL_lay_53 : decode method_18_code 53 = .ok (.iastore, 1) := by decide +kernel
theorem eL_lay_54 : decode method_18_code 54 = .ok (.aload_n 2, 1) := by decide +kernel
theorem eL_lay_55 : decode method_18_code 55 = .ok (.iconst 3, 1) := by decide +kernel
theorem eL_lay_56 : decode method_18_code 56 = .ok (.iload_n 3, 1) := by decide +kernel
theorem eL_lay_57 : decode method_18_code 57 = .ok (.bipush 9, 2) := by decide +kernel
theorem eL_lay_59 : decode method_18_code 59 = .ok (.ishr, 1) := by decide +kernel
theorem eL_lay_60 : decode method_18_code 60 = .ok (.iconst 3, 1) := by decide +kernel
theorem eL_lay_61 : decode method_18_code 61 = .ok (.iand, 1) := by decide +kernel
theorem eL_lay_62 : decode method_18_code 62 = .ok (.iastore, 1) := by decide +kernel
theorem eL_lay_63 : decode method_18_code 63 = .ok (.aload_n 2, 1) := by decide +kernel
theorem eL_lay_64 : decode method_18_code 64 = .ok (.iconst 4, 1) := by decide +kernel
theorem eL_lay_65 : decode method_18_code 65 = .ok (.iconst 1, 1) := by decide +kernel
theorem eL_lay_66 : decode method_18_code 66 = .ok (.iload_n 3, 1) := by decide +kernel
theorem eL_lay_67 : decode method_18_code 67 = .ok (.bipush 11, 2) := by decide +kernel
theorem eL_lay_69 : decode method_18_code 69 = .ok (.ishr, 1) := by decide +kernel
theorem eL_lay_70 : decode method_18_code 70 = .ok (.bipush 20, 2) := by decide +kernel
theorem eL_lay_72 : decode method_18_code 72 = .ok (.invokestatic 52, 3) := by decide +kernel
theorem eL_lay_75 : decode method_18_code 75 = .ok (.iadd, 1) := by decide +kernel
theorem eL_lay_76 : decode method_18_code 76 = .ok (.iastore, 1) := by decide +kernel
theorem eL_lay_77 : decode method_18_code 77 = .ok (.aload_n 0, 1) := by decide +kernel
theorem eL_lay_78 : decode method_18_code 78 = .ok (.iconst 0, 1) := by decide +kernel
theorem eL_lay_79 : decode method_18_code 79 = .ok (.aload_n 2, 1) := by decide +kernel
theorem eL_lay_80 : decode method_18_code 80 = .ok (.iconst 1, 1) := by decide +kernel
theorem eL_lay_81 : decode method_18_code 81 = .ok (.iaload, 1) := by decide +kernel
theorem eL_lay_82 : decode method_18_code 82 = .ok (.invokevirtual 56, 3) := by decide +kernel
theorem eL_lay_85 : decode method_18_code 85 = .ok (.bipush 15, 2) := by decide +kernel
theorem eL_lay_87 : decode method_18_code 87 = .ok (.if_icmp .ne 38, 3) := by decide +kernel
theorem eL_lay_90 : decode method_18_code 90 = .ok (.aload_n 0, 1) := by decide +kernel
theorem eL_lay_91 : decode method_18_code 91 = .ok (.iconst 1, 1) := by decide +kernel
theorem eL_lay_92 : decode method_18_code 92 = .ok (.aload_n 2, 1) := by decide +kernel
theorem eL_lay_93 : decode method_18_code 93 = .ok (.iconst 2, 1) := by decide +kernel
theorem eL_lay_94 : decode method_18_code 94 = .ok (.iaload, 1) := by decide +kernel
theorem eL_lay_95 : decode method_18_code 95 = .ok (.invokevirtual 56, 3) := by decide +kernel
theorem eL_lay_98 : decode method_18_code 98 = .ok (.iconst 2, 1) := by decide +kernel
theorem eL_lay_99 : decode method_18_code 99 = .ok (.if_icmp .ne 26, 3) := by decide +kernel
theorem eL_lay_102 : decode method_18_code 102 = .ok (.aload_n 0, 1) := by decide +kernel
theorem eL_lay_103 : decode method_18_code 103 = .ok (.iconst 2, 1) := by decide +kernel
theorem eL_lay_104 : decode method_18_code 104 = .ok (.aload_n 2, 1) := by decide +kernel
theorem eL_lay_105 : decode method_18_code 105 = .ok (.iconst 3, 1) := by decide +kernel
theorem eL_lay_106 : decode method_18_code 106 = .ok (.iaload, 1) := by decide +kernel
theorem eL_lay_107 : decode method_18_code 107 = .ok (.invokevirtual 56, 3) := by decide +kernel
theorem eL_lay_110 : decode method_18_code 110 = .ok (.ifCond .ne 15, 3) := by decide +kernel
theorem eL_lay_113 : decode method_18_code 113 = .ok (.aload_n 0, 1) := by decide +kernel
theorem eL_lay_114 : decode method_18_code 114 = .ok (.iconst 3, 1) := by decide +kernel
theorem eL_lay_115 : decode method_18_code 115 = .ok (.aload_n 2, 1) := by decide +kernel
theorem eL_lay_116 : decode method_18_code 116 = .ok (.iconst 4, 1) := by decide +kernel
theorem eL_lay_117 : decode method_18_code 117 = .ok (.iaload, 1) := by decide +kernel
theorem eL_lay_118 : decode method_18_code 118 = .ok (.invokevirtual 56, 3) := by decide +kernel
theorem eL_lay_121 : decode method_18_code 121 = .ok (.iconst 5, 1) := by decide +kernel
theorem eL_lay_122 : decode method_18_code 122 = .ok (.if_icmp .eq 5, 3) := by decide +kernel
theorem eL_lay_125 : decode method_18_code 125 = .ok (.iconst 0, 1) := by decide +kernel
theorem eL_lay_126 : decode method_18_code 126 = .ok (.ireturn, 1) := by decide +kernel
theorem eL_lay_127 : decode method_18_code 127 = .ok (.iconst 1, 1) := by decide +kernel
theorem eL_lay_128 : decode method_18_code 128 = .ok (.iload_n 3, 1) := by decide +kernel
theorem eL_lay_129 : decode method_18_code 129 = .ok (.bipush 16, 2) := by decide +kernel
theorem eL_lay_131 : decode method_18_code 131 = .ok (.ishr, 1) := by decide +kernel
theorem eL_lay_132 : decode method_18_code 132 = .ok (.bipush 10, 2) := by decide +kernel
theorem eL_lay_134 : decode method_18_code 134 = .ok (.invokestatic 52, 3) := by decide +kernel
theorem eL_lay_137 : decode method_18_code 137 = .ok (.iadd, 1) := by decide +kernel
theorem eL_lay_138 : decode method_18_code 138 = .ok (.istore 4, 2) := by decide +kernel
theorem eL_lay_140 : decode method_18_code 140 = .ok (.iconst 0, 1) := by decide +kernel
theorem eL_lay_141 : decode method_18_code 141 = .ok (.istore 5, 2) := by decide +kernel
theorem eL_lay_143 : decode method_18_code 143 = .ok (.iload 5, 2) := by decide +kernel
theorem eL_lay_145 : decode method_18_code 145 = .ok (.iload 4, 2) := by decide +kernel
theorem eL_lay_147 : decode method_18_code 147 = .ok (.if_icmp .ge 215, 3) := by decide +kernel
theorem eL_lay_150 : decode method_18_code 150 = .ok (.aload_n 1, 1) := by decide +kernel
theorem eL_lay_151 : decode method_18_code 151 = .ok (.iconst 1, 1) := by decide +kernel
theorem eL_lay_152 : decode method_18_code 152 = .ok (.iload 5, 2) := by decide +kernel
theorem eL_lay_154 : decode method_18_code 154 = .ok (.iconst 5, 1) := by decide +kernel
theorem eL_lay_155 : decode method_18_code 155 = .ok (.irem, 1) := by decide +kernel
theorem eL_lay_156 : decode method_18_code 156 = .ok (.iadd, 1) := by decide +kernel
theorem eL_lay_157 : decode method_18_code 157 = .ok (.invokestatic 50, 3) := by decide +kernel
theorem eL_lay_160 : decode method_18_code 160 = .ok (.bipush 15, 2) := by decide +kernel
theorem eL_lay_162 : decode method_18_code 162 = .ok (.iload 5, 2) := by decide +kernel
theorem eL_lay_164 : decode method_18_code 164 = .ok (.iconst 5, 1) := by decide +kernel
theorem eL_lay_165 : decode method_18_code 165 = .ok (.idiv, 1) := by decide +kernel
theorem eL_lay_166 : decode method_18_code 166 = .ok (.imul, 1) := by decide +kernel
theorem eL_lay_167 : decode method_18_code 167 = .ok (.ishr, 1) := by decide +kernel
theorem eL_lay_168 : decode method_18_code 168 = .ok (.istore 6, 2) := by decide +kernel
theorem eL_lay_170 : decode method_18_code 170 = .ok (.aload_n 0, 1) := by decide +kernel
theorem eL_lay_171 : decode method_18_code 171 = .ok (.aload_n 2, 1) := by decide +kernel
theorem eL_lay_172 : decode method_18_code 172 = .ok (.iload 6, 2) := by decide +kernel
theorem eL_lay_174 : decode method_18_code 174 = .ok (.bipush 6, 2) := by decide +kernel
theorem eL_lay_176 : decode method_18_code 176 = .ok (.invokestatic 52, 3) := by decide +kernel
theorem eL_lay_179 : decode method_18_code 179 = .ok (.iload 6, 2) := by decide +kernel
theorem eL_lay_181 : decode method_18_code 181 = .ok (.iconst 3, 1) := by decide +kernel
theorem eL_lay_182 : decode method_18_code 182 = .ok (.ishr, 1) := by decide +kernel
theorem eL_lay_183 : decode method_18_code 183 = .ok (.iload 6, 2) := by decide +kernel
theorem eL_lay_185 : decode method_18_code 185 = .ok (.bipush 14, 2) := by decide +kernel
theorem eL_lay_187 : decode method_18_code 187 = .ok (.ishr, 1) := by decide +kernel
theorem eL_lay_188 : decode method_18_code 188 = .ok (.iconst 1, 1) := by decide +kernel
theorem eL_lay_189 : decode method_18_code 189 = .ok (.iand, 1) := by decide +kernel
theorem eL_lay_190 : decode method_18_code 190 = .ok (.ifCond .ne 7, 3) := by decide +kernel
theorem eL_lay_193 : decode method_18_code 193 = .ok (.iconst 3, 1) := by decide +kernel
theorem eL_lay_194 : decode method_18_code 194 = .ok (.goto 5, 3) := by decide +kernel
theorem eL_lay_197 : decode method_18_code 197 = .ok (.bipush 10, 2) := by decide +kernel
theorem eL_lay_199 : decode method_18_code 199 = .ok (.invokestatic 52, 3) := by decide +kernel
theorem eL_lay_202 : decode method_18_code 202 = .ok (.iload 6, 2) := by decide +kernel
theorem eL_lay_204 : decode method_18_code 204 = .ok (.bipush 6, 2) := by decide +kernel
theorem eL_lay_206 : decode method_18_code 206 = .ok (.ishr, 1) := by decide +kernel
theorem eL_lay_207 : decode method_18_code 207 = .ok (.iload 6, 2) := by decide +kernel
theorem eL_lay_209 : decode method_18_code 209 = .ok (.bipush 14, 2) := by decide +kernel
theorem eL_lay_211 : decode method_18_code 211 = .ok (.ishr, 1) := by decide +kernel
theorem eL_lay_212 : decode method_18_code 212 = .ok (.iconst 1, 1) := by decide +kernel
theorem eL_lay_213 : decode method_18_code 213 = .ok (.iand, 1) := by decide +kernel
theorem eL_lay_214 : decode method_18_code 214 = .ok (.ifCond .ne 7, 3) := by decide +kernel
theorem eL_lay_217 : decode method_18_code 217 = .ok (.iconst 3, 1) := by decide +kernel
theorem eL_lay_218 : decode method_18_code 218 = .ok (.goto 5, 3) := by decide +kernel
theorem eL_lay_221 : decode method_18_code 221 = .ok (.bipush 10, 2) := by decide +kernel
theorem eL_lay_223 : decode method_18_code 223 = .ok (.invokestatic 52, 3) := by decide +kernel
theorem eL_lay_226 : decode method_18_code 226 = .ok (.invokestatic 59, 3) := by decide +kernel
theorem eL_lay_229 : decode method_18_code 229 = .ok (.ifCond .ne 5, 3) := by decide +kernel
theorem eL_lay_232 : decode method_18_code 232 = .ok (.iconst 0, 1) := by decide +kernel
theorem eL_lay_233 : decode method_18_code 233 = .ok (.ireturn, 1) := by decide +kernel
theorem eL_lay_234 : decode method_18_code 234 = .ok (.iload 6, 2) := by decide +kernel
theorem eL_lay_236 : decode method_18_code 236 = .ok (.bipush 10, 2) := by decide +kernel
theorem eL_lay_238 : decode method_18_code 238 = .ok (.ishr, 1) := by decide +kernel
theorem eL_lay_239 : decode method_18_code 239 = .ok (.iconst 3, 1) := by decide +kernel
theorem eL_lay_240 : decode method_18_code 240 = .ok (.iand, 1) := by decide +kernel
theorem eL_lay_241 : decode method_18_code 241 = .ok (.istore 7, 2) := by decide +kernel
theorem eL_lay_243 : decode method_18_code 243 = .ok (.aload_n 0, 1) := by decide +kernel
theorem eL_lay_244 : decode method_18_code 244 = .ok (.iload 5, 2) := by decide +kernel
theorem eL_lay_246 : decode method_18_code 246 = .ok (.iconst 3, 1) := by decide +kernel
theorem eL_lay_247 : decode method_18_code 247 = .ok (.iload 7, 2) := by decide +kernel
theorem eL_lay_249 : decode method_18_code 249 = .ok (.invokevirtual 62, 3) := by decide +kernel
theorem eL_lay_252 : decode method_18_code 252 = .ok (.ifCond .eq 5, 3) := by decide +kernel
theorem eL_lay_255 : decode method_18_code 255 = .ok (.iconst 0, 1) := by decide +kernel
theorem eL_lay_256 : decode method_18_code 256 = .ok (.ireturn, 1) := by decide +kernel
theorem eL_lay_257 : decode method_18_code 257 = .ok (.aload_n 2, 1) := by decide +kernel
theorem eL_lay_258 : decode method_18_code 258 = .ok (.bipush 9, 2) := by decide +kernel
theorem eL_lay_260 : decode method_18_code 260 = .ok (.bipush 6, 2) := by decide +kernel
theorem eL_lay_262 : decode method_18_code 262 = .ok (.iload 5, 2) := by decide +kernel
theorem eL_lay_264 : decode method_18_code 264 = .ok (.imul, 1) := by decide +kernel
theorem eL_lay_265 : decode method_18_code 265 = .ok (.iadd, 1) := by decide +kernel
theorem eL_lay_266 : decode method_18_code 266 = .ok (.iload 7, 2) := by decide +kernel
theorem eL_lay_268 : decode method_18_code 268 = .ok (.iastore, 1) := by decide +kernel
theorem eL_lay_269 : decode method_18_code 269 = .ok (.iload 6, 2) := by decide +kernel
theorem eL_lay_271 : decode method_18_code 271 = .ok (.bipush 12, 2) := by decide +kernel
theorem eL_lay_273 : decode method_18_code 273 = .ok (.ishr, 1) := by decide +kernel
theorem eL_lay_274 : decode method_18_code 274 = .ok (.iconst 3, 1) := by decide +kernel
theorem eL_lay_275 : decode method_18_code 275 = .ok (.iand, 1) := by decide +kernel
theorem eL_lay_276 : decode method_18_code 276 = .ok (.ifCond .le 6, 3) := by decide +kernel
theorem eL_lay_279 : decode method_18_code 279 = .ok (.goto 77, 3) := by decide +kernel
theorem eL_lay_282 : decode method_18_code 282 = .ok (.iload 6, 2) := by decide +kernel
theorem eL_lay_284 : decode method_18_code 284 = .ok (.bipush 31, 2) := by decide +kernel
theorem eL_lay_286 : decode method_18_code 286 = .ok (.imul, 1) := by decide +kernel
theorem eL_lay_287 : decode method_18_code 287 = .ok (.ldc 65, 2) := by decide +kernel
theorem eL_lay_289 : decode method_18_code 289 = .ok (.invokestatic 52, 3) := by decide +kernel
theorem eL_lay_292 : decode method_18_code 292 = .ok (.istore 8, 2) := by decide +kernel
theorem eL_lay_294 : decode method_18_code 294 = .ok (.iload 6, 2) := by decide +kernel
theorem eL_lay_296 : decode method_18_code 296 = .ok (.bipush 8, 2) := by decide +kernel
theorem eL_lay_298 : decode method_18_code 298 = .ok (.ishr, 1) := by decide +kernel
theorem eL_lay_299 : decode method_18_code 299 = .ok (.bipush 9, 2) := by decide +kernel
theorem eL_lay_301 : decode method_18_code 301 = .ok (.invokestatic 52, 3) := by decide +kernel
theorem eL_lay_304 : decode method_18_code 304 = .ok (.istore 9, 2) := by decide +kernel
theorem eL_lay_306 : decode method_18_code 306 = .ok (.aload_n 0, 1) := by decide +kernel
theorem eL_lay_307 : decode method_18_code 307 = .ok (.iload 5, 2) := by decide +kernel
theorem eL_lay_309 : decode method_18_code 309 = .ok (.iconst 4, 1) := by decide +kernel
theorem eL_lay_310 : decode method_18_code 310 = .ok (.iload 8, 2) := by decide +kernel
theorem eL_lay_312 : decode method_18_code 312 = .ok (.invokevirtual 62, 3) := by decide +kernel
theorem eL_lay_315 : decode method_18_code 315 = .ok (.ifCond .ne 15, 3) := by decide +kernel
theorem eL_lay_318 : decode method_18_code 318 = .ok (.aload_n 0, 1) := by decide +kernel
theorem eL_lay_319 : decode method_18_code 319 = .ok (.iload 5, 2) := by decide +kernel
theorem eL_lay_321 : decode method_18_code 321 = .ok (.iconst 5, 1) := by decide +kernel
theorem eL_lay_322 : decode method_18_code 322 = .ok (.iload 9, 2) := by decide +kernel
theorem eL_lay_324 : decode method_18_code 324 = .ok (.invokevirtual 62, 3) := by decide +kernel
theorem eL_lay_327 : decode method_18_code 327 = .ok (.ifCond .eq 5, 3) := by decide +kernel
theorem eL_lay_330 : decode method_18_code 330 = .ok (.iconst 0, 1) := by decide +kernel
theorem eL_lay_331 : decode method_18_code 331 = .ok (.ireturn, 1) := by decide +kernel
theorem eL_lay_332 : decode method_18_code 332 = .ok (.aload_n 2, 1) := by decide +kernel
theorem eL_lay_333 : decode method_18_code 333 = .ok (.bipush 10, 2) := by decide +kernel
theorem eL_lay_335 : decode method_18_code 335 = .ok (.bipush 6, 2) := by decide +kernel
theorem eL_lay_337 : decode method_18_code 337 = .ok (.iload 5, 2) := by decide +kernel
theorem eL_lay_339 : decode method_18_code 339 = .ok (.imul, 1) := by decide +kernel
theorem eL_lay_340 : decode method_18_code 340 = .ok (.iadd, 1) := by decide +kernel
theorem eL_lay_341 : decode method_18_code 341 = .ok (.iload 8, 2) := by decide +kernel
theorem eL_lay_343 : decode method_18_code 343 = .ok (.iastore, 1) := by decide +kernel
theorem eL_lay_344 : decode method_18_code 344 = .ok (.aload_n 2, 1) := by decide +kernel
theorem eL_lay_345 : decode method_18_code 345 = .ok (.bipush 11, 2) := by decide +kernel
theorem eL_lay_347 : decode method_18_code 347 = .ok (.bipush 6, 2) := by decide +kernel
theorem eL_lay_349 : decode method_18_code 349 = .ok (.iload 5, 2) := by decide +kernel
theorem eL_lay_351 : decode method_18_code 351 = .ok (.imul, 1) := by decide +kernel
theorem eL_lay_352 : decode method_18_code 352 = .ok (.iadd, 1) := by decide +kernel
theorem eL_lay_353 : decode method_18_code 353 = .ok (.iload 9, 2) := by decide +kernel
theorem eL_lay_355 : decode method_18_code 355 = .ok (.iastore, 1) := by decide +kernel
theorem eL_lay_356 : decode method_18_code 356 = .ok (.iinc 5 1, 3) := by decide +kernel
theorem eL_lay_359 : decode method_18_code 359 = .ok (.goto (-216), 3) := by decide +kernel
theorem eL_lay_362 : decode method_18_code 362 = .ok (.iload_n 3, 1) := by decide +kernel
theorem eL_lay_363 : decode method_18_code 363 = .ok (.bipush 20, 2) := by decide +kernel
theorem eL_lay_365 : decode method_18_code 365 = .ok (.ishr, 1) := by decide +kernel
theorem eL_lay_366 : decode method_18_code 366 = .ok (.bipush 40, 2) := by decide +kernel
theorem eL_lay_368 : decode method_18_code 368 = .ok (.invokestatic 52, 3) := by decide +kernel
theorem eL_lay_371 : decode method_18_code 371 = .ok (.istore 5, 2) := by decide +kernel
theorem eL_lay_373 : decode method_18_code 373 = .ok (.iconst 0, 1) := by decide +kernel
theorem eL_lay_374 : decode method_18_code 374 = .ok (.istore 6, 2) := by decide +kernel
theorem eL_lay_376 : decode method_18_code 376 = .ok (.iload 6, 2) := by decide +kernel
theorem eL_lay_378 : decode method_18_code 378 = .ok (.iload 5, 2) := by decide +kernel
theorem eL_lay_380 : decode method_18_code 380 = .ok (.if_icmp .ge 13, 3) := by decide +kernel
theorem eL_lay_383 : decode method_18_code 383 = .ok (.aload_n 2, 1) := by decide +kernel
theorem eL_lay_384 : decode method_18_code 384 = .ok (.invokestatic 34, 3) := by decide +kernel
theorem eL_lay_387 : decode method_18_code 387 = .ok (.iinc 6 1, 3) := by decide +kernel
theorem eL_lay_390 : decode method_18_code 390 = .ok (.goto (-14), 3) := by decide +kernel
theorem eL_lay_393 : decode method_18_code 393 = .ok (.iload 5, 2) := by decide +kernel
theorem eL_lay_395 : decode method_18_code 395 = .ok (.ifCond .eq 14, 3) := by decide +kernel
theorem eL_lay_398 : decode method_18_code 398 = .ok (.aload_n 0, 1) := by decide +kernel
theorem eL_lay_399 : decode method_18_code 399 = .ok (.iload 5, 2) := by decide +kernel
theorem eL_lay_401 : decode method_18_code 401 = .ok (.invokevirtual 66, 3) := by decide +kernel
theorem eL_lay_404 : decode method_18_code 404 = .ok (.iload 5, 2) := by decide +kernel
theorem eL_lay_406 : decode method_18_code 406 = .ok (.if_icmp .ne 7, 3) := by decide +kernel
theorem eL_lay_409 : decode method_18_code 409 = .ok (.iconst 1, 1) := by decide +kernel
theorem eL_lay_410 : decode method_18_code 410 = .ok (.goto 4, 3) := by decide +kernel
theorem eL_lay_413 : decode method_18_code 413 = .ok (.iconst 0, 1) := by decide +kernel
theorem eL_lay_414 : decode method_18_code 414 = .ok (.ireturn, 1) := by decide +kernel
theorem eL_at_0 : decode method_3_code 0 = .ok (.aload_n 0, 1) := by decide +kernel
theorem eL_at_1 : decode method_3_code 1 = .ok (.arraylength, 1) := by decide +kernel
theorem eL_at_2 : decode method_3_code 2 = .ok (.iload_n 1, 1) := by decide +kernel
theorem eL_at_3 : decode method_3_code 3 = .ok (.if_icmp .le 9, 3) := by decide +kernel
theorem eL_at_6 : decode method_3_code 6 = .ok (.aload_n 0, 1) := by decide +kernel
theorem eL_at_7 : decode method_3_code 7 = .ok (.iload_n 1, 1) := by decide +kernel
theorem eL_at_8 : decode method_3_code 8 = .ok (.iaload, 1) := by decide +kernel
theorem eL_at_9 : decode method_3_code 9 = .ok (.goto 10, 3) := by decide +kernel
theorem eL_at_12 : decode method_3_code 12 = .ok (.bipush 41, 2) := by decide +kernel
theorem eL_at_14 : decode method_3_code 14 = .ok (.iload_n 1, 1) := by decide +kernel
theorem eL_at_15 : decode method_3_code 15 = .ok (.imul, 1) := by decide +kernel
theorem eL_at_16 : decode method_3_code 16 = .ok (.bipush 13, 2) := by decide +kernel
theorem eL_at_18 : decode method_3_code 18 = .ok (.iadd, 1) := by decide +kernel
theorem eL_at_19 : decode method_3_code 19 = .ok (.ireturn, 1) := by decide +kernel
theorem eL_mod_0 : decode method_2_code 0 = .ok (.iload_n 0, 1) := by decide +kernel
theorem eL_mod_1 : decode method_2_code 1 = .ok (.iload_n 1, 1) := by decide +kernel
theorem eL_mod_2 : decode method_2_code 2 = .ok (.irem, 1) := by decide +kernel
theorem eL_mod_3 : decode method_2_code 3 = .ok (.istore_n 2, 1) := by decide +kernel
theorem eL_mod_4 : decode method_2_code 4 = .ok (.iload_n 2, 1) := by decide +kernel
theorem eL_mod_5 : decode method_2_code 5 = .ok (.ifCond .ge 9, 3) := by decide +kernel
theorem eL_mod_8 : decode method_2_code 8 = .ok (.iload_n 2, 1) := by decide +kernel
theorem eL_mod_9 : decode method_2_code 9 = .ok (.iload_n 1, 1) := by decide +kernel
theorem eL_mod_10 : decode method_2_code 10 = .ok (.iadd, 1) := by decide +kernel
theorem eL_mod_11 : decode method_2_code 11 = .ok (.goto 4, 3) := by decide +kernel
theorem eL_mod_14 : decode method_2_code 14 = .ok (.iload_n 2, 1) := by decide +kernel
theorem eL_mod_15 : decode method_2_code 15 = .ok (.ireturn, 1) := by decide +kernel
theorem eL_wall_0 : decode method_17_code 0 = .ok (.aload_n 1, 1) := by decide +kernel
theorem eL_wall_1 : decode method_17_code 1 = .ok (.iconst 5, 1) := by decide +kernel
theorem eL_wall_2 : decode method_17_code 2 = .ok (.iaload, 1) := by decide +kernel
theorem eL_wall_3 : decode method_17_code 3 = .ok (.istore 5, 2) := by decide +kernel
theorem eL_wall_5 : decode method_17_code 5 = .ok (.aload_n 0, 1) := by decide +kernel
theorem eL_wall_6 : decode method_17_code 6 = .ok (.iload_n 2, 1) := by decide +kernel
theorem eL_wall_7 : decode method_17_code 7 = .ok (.iload_n 3, 1) := by decide +kernel
theorem eL_wall_8 : decode method_17_code 8 = .ok (.iload 4, 2) := by decide +kernel
theorem eL_wall_10 : decode method_17_code 10 = .ok (.invokevirtual 44, 3) := by decide +kernel
theorem eL_wall_13 : decode method_17_code 13 = .ok (.iload 5, 2) := by decide +kernel
theorem eL_wall_15 : decode method_17_code 15 = .ok (.if_icmp .eq 5, 3) := by decide +kernel
theorem eL_wall_18 : decode method_17_code 18 = .ok (.iconst 0, 1) := by decide +kernel
theorem eL_wall_19 : decode method_17_code 19 = .ok (.ireturn, 1) := by decide +kernel
theorem eL_wall_20 : decode method_17_code 20 = .ok (.aload_n 1, 1) := by decide +kernel
theorem eL_wall_21 : decode method_17_code 21 = .ok (.bipush 6, 2) := by decide +kernel
theorem eL_wall_23 : decode method_17_code 23 = .ok (.bipush 6, 2) := by decide +kernel
theorem eL_wall_25 : decode method_17_code 25 = .ok (.iload 5, 2) := by decide +kernel
theorem eL_wall_27 : decode method_17_code 27 = .ok (.imul, 1) := by decide +kernel
theorem eL_wall_28 : decode method_17_code 28 = .ok (.iadd, 1) := by decide +kernel
theorem eL_wall_29 : decode method_17_code 29 = .ok (.iload_n 2, 1) := by decide +kernel
theorem eL_wall_30 : decode method_17_code 30 = .ok (.iastore, 1) := by decide +kernel
theorem eL_wall_31 : decode method_17_code 31 = .ok (.aload_n 1, 1) := by decide +kernel
theorem eL_wall_32 : decode method_17_code 32 = .ok (.bipush 7, 2) := by decide +kernel
theorem eL_wall_34 : decode method_17_code 34 = .ok (.bipush 6, 2) := by decide +kernel
theorem eL_wall_36 : decode method_17_code 36 = .ok (.iload 5, 2) := by decide +kernel
theorem eL_wall_38 : decode method_17_code 38 = .ok (.imul, 1) := by decide +kernel
theorem eL_wall_39 : decode method_17_code 39 = .ok (.iadd, 1) := by decide +kernel
theorem eL_wall_40 : decode method_17_code 40 = .ok (.iload_n 3, 1) := by decide +kernel
theorem eL_wall_41 : decode method_17_code 41 = .ok (.iastore, 1) := by decide +kernel
theorem eL_wall_42 : decode method_17_code 42 = .ok (.aload_n 1, 1) := by decide +kernel
theorem eL_wall_43 : decode method_17_code 43 = .ok (.bipush 8, 2) := by decide +kernel
theorem eL_wall_45 : decode method_17_code 45 = .ok (.bipush 6, 2) := by decide +kernel
theorem eL_wall_47 : decode method_17_code 47 = .ok (.iload 5, 2) := by decide +kernel
theorem eL_wall_49 : decode method_17_code 49 = .ok (.imul, 1) := by decide +kernel
theorem eL_wall_50 : decode method_17_code 50 = .ok (.iadd, 1) := by decide +kernel
theorem eL_wall_51 : decode method_17_code 51 = .ok (.iload 4, 2) := by decide +kernel
theorem eL_wall_53 : decode method_17_code 53 = .ok (.iastore, 1) := by decide +kernel
theorem eL_wall_54 : decode method_17_code 54 = .ok (.aload_n 1, 1) := by decide +kernel
theorem eL_wall_55 : decode method_17_code 55 = .ok (.bipush 9, 2) := by decide +kernel
theorem eL_wall_57 : decode method_17_code 57 = .ok (.bipush 6, 2) := by decide +kernel
theorem eL_wall_59 : decode method_17_code 59 = .ok (.iload 5, 2) := by decide +kernel
theorem eL_wall_61 : decode method_17_code 61 = .ok (.imul, 1) := by decide +kernel
theorem eL_wall_62 : decode method_17_code 62 = .ok (.iadd, 1) := by decide +kernel
theorem eL_wall_63 : decode method_17_code 63 = .ok (.iconst 0, 1) := by decide +kernel
theorem eL_wall_64 : decode method_17_code 64 = .ok (.iastore, 1) := by decide +kernel
theorem eL_wall_65 : decode method_17_code 65 = .ok (.aload_n 1, 1) := by decide +kernel
theorem eL_wall_66 : decode method_17_code 66 = .ok (.bipush 10, 2) := by decide +kernel
theorem eL_wall_68 : decode method_17_code 68 = .ok (.bipush 6, 2) := by decide +kernel
theorem eL_wall_70 : decode method_17_code 70 = .ok (.iload 5, 2) := by decide +kernel
theorem eL_wall_72 : decode method_17_code 72 = .ok (.imul, 1) := by decide +kernel
theorem eL_wall_73 : decode method_17_code 73 = .ok (.iadd, 1) := by decide +kernel
theorem eL_wall_74 : decode method_17_code 74 = .ok (.iconst 0, 1) := by decide +kernel
theorem eL_wall_75 : decode method_17_code 75 = .ok (.iastore, 1) := by decide +kernel
theorem eL_wall_76 : decode method_17_code 76 = .ok (.aload_n 1, 1) := by decide +kernel
theorem eL_wall_77 : decode method_17_code 77 = .ok (.bipush 11, 2) := by decide +kernel
theorem eL_wall_79 : decode method_17_code 79 = .ok (.bipush 6, 2) := by decide +kernel
theorem eL_wall_81 : decode method_17_code 81 = .ok (.iload 5, 2) := by decide +kernel
theorem eL_wall_83 : decode method_17_code 83 = .ok (.imul, 1) := by decide +kernel
theorem eL_wall_84 : decode method_17_code 84 = .ok (.iadd, 1) := by decide +kernel
theorem eL_wall_85 : decode method_17_code 85 = .ok (.iconst 0, 1) := by decide +kernel
theorem eL_wall_86 : decode method_17_code 86 = .ok (.iastore, 1) := by decide +kernel
theorem eL_wall_87 : decode method_17_code 87 = .ok (.aload_n 1, 1) := by decide +kernel
theorem eL_wall_88 : decode method_17_code 88 = .ok (.iconst 5, 1) := by decide +kernel
theorem eL_wall_89 : decode method_17_code 89 = .ok (.dup2, 1) := by decide +kernel
theorem eL_wall_90 : decode method_17_code 90 = .ok (.iaload, 1) := by decide +kernel
theorem eL_wall_91 : decode method_17_code 91 = .ok (.iconst 1, 1) := by decide +kernel
theorem eL_wall_92 : decode method_17_code 92 = .ok (.iadd, 1) := by decide +kernel
theorem eL_wall_93 : decode method_17_code 93 = .ok (.iastore, 1) := by decide +kernel
theorem eL_wall_94 : decode method_17_code 94 = .ok (.iconst 1, 1) := by decide +kernel
theorem eL_wall_95 : decode method_17_code 95 = .ok (.ireturn, 1) := by decide +kernel
theorem eL_minute_0 : decode method_10_code 0 = .ok (.aload_n 0, 1) := by decide +kernel
theorem eL_minute_1 : decode method_10_code 1 = .ok (.iconst 0, 1) := by decide +kernel
theorem eL_minute_2 : decode method_10_code 2 = .ok (.dup2, 1) := by decide +kernel
theorem eL_minute_3 : decode method_10_code 3 = .ok (.iaload, 1) := by decide +kernel
theorem eL_minute_4 : decode method_10_code 4 = .ok (.iconst 1, 1) := by decide +kernel
theorem eL_minute_5 : decode method_10_code 5 = .ok (.iadd, 1) := by decide +kernel
theorem eL_minute_6 : decode method_10_code 6 = .ok (.iastore, 1) := by decide +kernel
theorem eL_minute_7 : decode method_10_code 7 = .ok (.aload_n 0, 1) := by decide +kernel
theorem eL_minute_8 : decode method_10_code 8 = .ok (.iconst 0, 1) := by decide +kernel
theorem eL_minute_9 : decode method_10_code 9 = .ok (.iaload, 1) := by decide +kernel
theorem eL_minute_10 : decode method_10_code 10 = .ok (.aload_n 0, 1) := by decide +kernel
theorem eL_minute_11 : decode method_10_code 11 = .ok (.iconst 1, 1) := by decide +kernel
theorem eL_minute_12 : decode method_10_code 12 = .ok (.iaload, 1) := by decide +kernel
theorem eL_minute_13 : decode method_10_code 13 = .ok (.irem, 1) := by decide +kernel
theorem eL_minute_14 : decode method_10_code 14 = .ok (.ifCond .le 4, 3) := by decide +kernel
theorem eL_minute_17 : decode method_10_code 17 = .ok (.return_, 1) := by decide +kernel
theorem eL_minute_18 : decode method_10_code 18 = .ok (.iconst 0, 1) := by decide +kernel
theorem eL_minute_19 : decode method_10_code 19 = .ok (.istore_n 1, 1) := by decide +kernel
theorem eL_minute_20 : decode method_10_code 20 = .ok (.iload_n 1, 1) := by decide +kernel
theorem eL_minute_21 : decode method_10_code 21 = .ok (.aload_n 0, 1) := by decide +kernel
theorem eL_minute_22 : decode method_10_code 22 = .ok (.iconst 5, 1) := by decide +kernel
theorem eL_minute_23 : decode method_10_code 23 = .ok (.iaload, 1) := by decide +kernel
theorem eL_minute_24 : decode method_10_code 24 = .ok (.if_icmp .ge 40, 3) := by decide +kernel
theorem eL_minute_27 : decode method_10_code 27 = .ok (.aload_n 0, 1) := by decide +kernel
theorem eL_minute_28 : decode method_10_code 28 = .ok (.bipush 9, 2) := by decide +kernel
theorem eL_minute_30 : decode method_10_code 30 = .ok (.bipush 6, 2) := by decide +kernel
theorem eL_minute_32 : decode method_10_code 32 = .ok (.iload_n 1, 1) := by decide +kernel
theorem eL_minute_33 : decode method_10_code 33 = .ok (.imul, 1) := by decide +kernel
theorem eL_minute_34 : decode method_10_code 34 = .ok (.iadd, 1) := by decide +kernel
theorem eL_minute_35 : decode method_10_code 35 = .ok (.iaload, 1) := by decide +kernel
theorem eL_minute_36 : decode method_10_code 36 = .ok (.aload_n 0, 1) := by decide +kernel
theorem eL_minute_37 : decode method_10_code 37 = .ok (.iconst 0, 1) := by decide +kernel
theorem eL_minute_38 : decode method_10_code 38 = .ok (.iaload, 1) := by decide +kernel
theorem eL_minute_39 : decode method_10_code 39 = .ok (.aload_n 0, 1) := by decide +kernel
theorem eL_minute_40 : decode method_10_code 40 = .ok (.iconst 1, 1) := by decide +kernel
theorem eL_minute_41 : decode method_10_code 41 = .ok (.iaload, 1) := by decide +kernel
theorem eL_minute_42 : decode method_10_code 42 = .ok (.idiv, 1) := by decide +kernel
theorem eL_minute_43 : decode method_10_code 43 = .ok (.iconst 4, 1) := by decide +kernel
theorem eL_minute_44 : decode method_10_code 44 = .ok (.irem, 1) := by decide +kernel
theorem eL_minute_45 : decode method_10_code 45 = .ok (.if_icmp .ne 13, 3) := by decide +kernel
theorem eL_minute_48 : decode method_10_code 48 = .ok (.aload_n 0, 1) := by decide +kernel
theorem eL_minute_49 : decode method_10_code 49 = .ok (.bipush 11, 2) := by decide +kernel
theorem eL_minute_51 : decode method_10_code 51 = .ok (.bipush 6, 2) := by decide +kernel
theorem eL_minute_53 : decode method_10_code 53 = .ok (.iload_n 1, 1) := by decide +kernel
theorem eL_minute_54 : decode method_10_code 54 = .ok (.imul, 1) := by decide +kernel
theorem eL_minute_55 : decode method_10_code 55 = .ok (.iadd, 1) := by decide +kernel
theorem eL_minute_56 : decode method_10_code 56 = .ok (.iconst 0, 1) := by decide +kernel
theorem eL_minute_57 : decode method_10_code 57 = .ok (.iastore, 1) := by decide +kernel
theorem eL_minute_58 : decode method_10_code 58 = .ok (.iinc 1 1, 3) := by decide +kernel
theorem eL_minute_61 : decode method_10_code 61 = .ok (.goto (-41), 3) := by decide +kernel
theorem eL_minute_64 : decode method_10_code 64 = .ok (.return_, 1) := by decide +kernel
theorem eL_isUnheard_0 : decode method_20_code 0 = .ok (.aload_n 0, 1) := by decide +kernel
theorem eL_isUnheard_1 : decode method_20_code 1 = .ok (.iload_n 1, 1) := by decide +kernel
theorem eL_isUnheard_2 : decode method_20_code 2 = .ok (.invokevirtual 72, 3) := by decide +kernel
theorem eL_isUnheard_5 : decode method_20_code 5 = .ok (.istore_n 3, 1) := by decide +kernel
theorem eL_isUnheard_6 : decode method_20_code 6 = .ok (.iconst 0, 1) := by decide +kernel
theorem eL_isUnheard_7 : decode method_20_code 7 = .ok (.istore 4, 2) := by decide +kernel
theorem eL_isUnheard_9 : decode method_20_code 9 = .ok (.iload 4, 2) := by decide +kernel
theorem eL_isUnheard_11 : decode method_20_code 11 = .ok (.aload_n 0, 1) := by decide +kernel
theorem eL_isUnheard_12 : decode method_20_code 12 = .ok (.iconst 0, 1) := by decide +kernel
theorem eL_isUnheard_13 : decode method_20_code 13 = .ok (.invokevirtual 79, 3) := by decide +kernel
theorem eL_isUnheard_16 : decode method_20_code 16 = .ok (.if_icmp .ge 57, 3) := by decide +kernel
theorem eL_isUnheard_19 : decode method_20_code 19 = .ok (.iload_n 2, 1) := by decide +kernel
theorem eL_isUnheard_20 : decode method_20_code 20 = .ok (.iload 4, 2) := by decide +kernel
theorem eL_isUnheard_22 : decode method_20_code 22 = .ok (.ishr, 1) := by decide +kernel
theorem eL_isUnheard_23 : decode method_20_code 23 = .ok (.iconst 1, 1) := by decide +kernel
theorem eL_isUnheard_24 : decode method_20_code 24 = .ok (.iand, 1) := by decide +kernel
theorem eL_isUnheard_25 : decode method_20_code 25 = .ok (.iconst 1, 1) := by decide +kernel
theorem eL_isUnheard_26 : decode method_20_code 26 = .ok (.if_icmp .ne 41, 3) := by decide +kernel
theorem eL_isUnheard_29 : decode method_20_code 29 = .ok (.aload_n 0, 1) := by decide +kernel
theorem eL_isUnheard_30 : decode method_20_code 30 = .ok (.iload 4, 2) := by decide +kernel
theorem eL_isUnheard_32 : decode method_20_code 32 = .ok (.bipush 6, 2) := by decide +kernel
theorem eL_isUnheard_34 : decode method_20_code 34 = .ok (.invokevirtual 69, 3) := by decide +kernel
theorem eL_isUnheard_37 : decode method_20_code 37 = .ok (.iconst 1, 1) := by decide +kernel
theorem eL_isUnheard_38 : decode method_20_code 38 = .ok (.if_icmp .ne 29, 3) := by decide +kernel
theorem eL_isUnheard_41 : decode method_20_code 41 = .ok (.iconst 1, 1) := by decide +kernel
theorem eL_isUnheard_42 : decode method_20_code 42 = .ok (.aload_n 0, 1) := by decide +kernel
theorem eL_isUnheard_43 : decode method_20_code 43 = .ok (.iload 4, 2) := by decide +kernel
theorem eL_isUnheard_45 : decode method_20_code 45 = .ok (.iconst 1, 1) := by decide +kernel
theorem eL_isUnheard_46 : decode method_20_code 46 = .ok (.invokevirtual 69, 3) := by decide +kernel
theorem eL_isUnheard_49 : decode method_20_code 49 = .ok (.ishl, 1) := by decide +kernel
theorem eL_isUnheard_50 : decode method_20_code 50 = .ok (.iconst 1, 1) := by decide +kernel
theorem eL_isUnheard_51 : decode method_20_code 51 = .ok (.aload_n 0, 1) := by decide +kernel
theorem eL_isUnheard_52 : decode method_20_code 52 = .ok (.iload 4, 2) := by decide +kernel
theorem eL_isUnheard_54 : decode method_20_code 54 = .ok (.iconst 2, 1) := by decide +kernel
theorem eL_isUnheard_55 : decode method_20_code 55 = .ok (.invokevirtual 69, 3) := by decide +kernel
theorem eL_isUnheard_58 : decode method_20_code 58 = .ok (.ishl, 1) := by decide +kernel
theorem eL_isUnheard_59 : decode method_20_code 59 = .ok (.ior, 1) := by decide +kernel
theorem eL_isUnheard_60 : decode method_20_code 60 = .ok (.iload_n 3, 1) := by decide +kernel
theorem eL_isUnheard_61 : decode method_20_code 61 = .ok (.iand, 1) := by decide +kernel
theorem eL_isUnheard_62 : decode method_20_code 62 = .ok (.ifCond .eq 5, 3) := by decide +kernel
theorem eL_isUnheard_65 : decode method_20_code 65 = .ok (.iconst 0, 1) := by decide +kernel
theorem eL_isUnheard_66 : decode method_20_code 66 = .ok (.ireturn, 1) := by decide +kernel
theorem eL_isUnheard_67 : decode method_20_code 67 = .ok (.iinc 4 1, 3) := by decide +kernel
theorem eL_isUnheard_70 : decode method_20_code 70 = .ok (.goto (-61), 3) := by decide +kernel
theorem eL_isUnheard_73 : decode method_20_code 73 = .ok (.iconst 1, 1) := by decide +kernel
theorem eL_isUnheard_74 : decode method_20_code 74 = .ok (.ireturn, 1) := by decide +kernel
theorem eL_ones_0 : decode method_11_code 0 = .ok (.iconst 0, 1) := by decide +kernel
theorem eL_ones_1 : decode method_11_code 1 = .ok (.istore_n 1, 1) := by decide +kernel
theorem eL_ones_2 : decode method_11_code 2 = .ok (.iconst 0, 1) := by decide +kernel
theorem eL_ones_3 : decode method_11_code 3 = .ok (.istore_n 2, 1) := by decide +kernel
theorem eL_ones_4 : decode method_11_code 4 = .ok (.iload_n 2, 1) := by decide +kernel
theorem eL_ones_5 : decode method_11_code 5 = .ok (.bipush 16, 2) := by decide +kernel
theorem eL_ones_7 : decode method_11_code 7 = .ok (.if_icmp .ge 17, 3) := by decide +kernel
theorem eL_ones_10 : decode method_11_code 10 = .ok (.iload_n 1, 1) := by decide +kernel
theorem eL_ones_11 : decode method_11_code 11 = .ok (.iload_n 0, 1) := by decide +kernel
theorem eL_ones_12 : decode method_11_code 12 = .ok (.iload_n 2, 1) := by decide +kernel
theorem eL_ones_13 : decode method_11_code 13 = .ok (.ishr, 1) := by decide +kernel
theorem eL_ones_14 : decode method_11_code 14 = .ok (.iconst 1, 1) := by decide +kernel
theorem eL_ones_15 : decode method_11_code 15 = .ok (.iand, 1) := by decide +kernel
theorem eL_ones_16 : decode method_11_code 16 = .ok (.iadd, 1) := by decide +kernel
theorem eL_ones_17 : decode method_11_code 17 = .ok (.istore_n 1, 1) := by decide +kernel
theorem eL_ones_18 : decode method_11_code 18 = .ok (.iinc 2 1, 3) := by decide +kernel
theorem eL_ones_21 : decode method_11_code 21 = .ok (.goto (-17), 3) := by decide +kernel
theorem eL_ones_24 : decode method_11_code 24 = .ok (.iload_n 1, 1) := by decide +kernel
theorem eL_ones_25 : decode method_11_code 25 = .ok (.ireturn, 1) := by decide +kernel
theorem eL_isSo_0 : decode method_19_code 0 = .ok (.iconst 0, 1) := by decide +kernel
theorem eL_isSo_1 : decode method_19_code 1 = .ok (.istore_n 2, 1) := by decide +kernel
theorem eL_isSo_2 : decode method_19_code 2 = .ok (.iconst 0, 1) := by decide +kernel
theorem eL_isSo_3 : decode method_19_code 3 = .ok (.istore_n 3, 1) := by decide +kernel
theorem eL_isSo_4 : decode method_19_code 4 = .ok (.iconst 0, 1) := by decide +kernel
theorem eL_isSo_5 : decode method_19_code 5 = .ok (.istore 4, 2) := by decide +kernel
theorem eL_isSo_7 : decode method_19_code 7 = .ok (.iconst 0, 1) := by decide +kernel
theorem eL_isSo_8 : decode method_19_code 8 = .ok (.istore 5, 2) := by decide +kernel
theorem eL_isSo_10 : decode method_19_code 10 = .ok (.iconst 0, 1) := by decide +kernel
theorem eL_isSo_11 : decode method_19_code 11 = .ok (.istore 6, 2) := by decide +kernel
theorem eL_isSo_13 : decode method_19_code 13 = .ok (.iconst 0, 1) := by decide +kernel
theorem eL_isSo_14 : decode method_19_code 14 = .ok (.istore 7, 2) := by decide +kernel
theorem eL_isSo_16 : decode method_19_code 16 = .ok (.iload 7, 2) := by decide +kernel
theorem eL_isSo_18 : decode method_19_code 18 = .ok (.aload_n 1, 1) := by decide +kernel
theorem eL_isSo_19 : decode method_19_code 19 = .ok (.iconst 5, 1) := by decide +kernel
theorem eL_isSo_20 : decode method_19_code 20 = .ok (.iaload, 1) := by decide +kernel
theorem eL_isSo_21 : decode method_19_code 21 = .ok (.if_icmp .ge 212, 3) := by decide +kernel
theorem eL_isSo_24 : decode method_19_code 24 = .ok (.iconst 0, 1) := by decide +kernel
theorem eL_isSo_25 : decode method_19_code 25 = .ok (.istore 8, 2) := by decide +kernel
theorem eL_isSo_27 : decode method_19_code 27 = .ok (.iload 8, 2) := by decide +kernel
theorem eL_isSo_29 : decode method_19_code 29 = .ok (.bipush 6, 2) := by decide +kernel
theorem eL_isSo_31 : decode method_19_code 31 = .ok (.if_icmp .ge 35, 3) := by decide +kernel
theorem eL_isSo_34 : decode method_19_code 34 = .ok (.aload_n 0, 1) := by decide +kernel
theorem eL_isSo_35 : decode method_19_code 35 = .ok (.iload 7, 2) := by decide +kernel
theorem eL_isSo_37 : decode method_19_code 37 = .ok (.iload 8, 2) := by decide +kernel
theorem eL_isSo_39 : decode method_19_code 39 = .ok (.invokevirtual 69, 3) := by decide +kernel
theorem eL_isSo_42 : decode method_19_code 42 = .ok (.aload_n 1, 1) := by decide +kernel
theorem eL_isSo_43 : decode method_19_code 43 = .ok (.bipush 6, 2) := by decide +kernel
theorem eL_isSo_45 : decode method_19_code 45 = .ok (.bipush 6, 2) := by decide +kernel
theorem eL_isSo_47 : decode method_19_code 47 = .ok (.iload 7, 2) := by decide +kernel
theorem eL_isSo_49 : decode method_19_code 49 = .ok (.imul, 1) := by decide +kernel
theorem eL_isSo_50 : decode method_19_code 50 = .ok (.iadd, 1) := by decide +kernel
theorem eL_isSo_51 : decode method_19_code 51 = .ok (.iload 8, 2) := by decide +kernel
theorem eL_isSo_53 : decode method_19_code 53 = .ok (.iadd, 1) := by decide +kernel
theorem eL_isSo_54 : decode method_19_code 54 = .ok (.iaload, 1) := by decide +kernel
theorem eL_isSo_55 : decode method_19_code 55 = .ok (.if_icmp .eq 5, 3) := by decide +kernel
theorem eL_isSo_58 : decode method_19_code 58 = .ok (.iconst 0, 1) := by decide +kernel
theorem eL_isSo_59 : decode method_19_code 59 = .ok (.ireturn, 1) := by decide +kernel
theorem eL_isSo_60 : decode method_19_code 60 = .ok (.iinc 8 1, 3) := by decide +kernel
theorem eL_isSo_63 : decode method_19_code 63 = .ok (.goto (-36), 3) := by decide +kernel
theorem eL_isSo_66 : decode method_19_code 66 = .ok (.aload_n 1, 1) := by decide +kernel
theorem eL_isSo_67 : decode method_19_code 67 = .ok (.iload 7, 2) := by decide +kernel
theorem eL_isSo_69 : decode method_19_code 69 = .ok (.aload_n 1, 1) := by decide +kernel
theorem eL_isSo_70 : decode method_19_code 70 = .ok (.iconst 0, 1) := by decide +kernel
theorem eL_isSo_71 : decode method_19_code 71 = .ok (.iaload, 1) := by decide +kernel
theorem eL_isSo_72 : decode method_19_code 72 = .ok (.invokestatic 17, 3) := by decide +kernel
theorem eL_isSo_75 : decode method_19_code 75 = .ok (.istore 8, 2) := by decide +kernel
theorem eL_isSo_77 : decode method_19_code 77 = .ok (.aload_n 1, 1) := by decide +kernel
theorem eL_isSo_78 : decode method_19_code 78 = .ok (.bipush 11, 2) := by decide +kernel
theorem eL_isSo_80 : decode method_19_code 80 = .ok (.bipush 6, 2) := by decide +kernel
theorem eL_isSo_82 : decode method_19_code 82 = .ok (.iload 7, 2) := by decide +kernel
theorem eL_isSo_84 : decode method_19_code 84 = .ok (.imul, 1) := by decide +kernel
theorem eL_isSo_85 : decode method_19_code 85 = .ok (.iadd, 1) := by decide +kernel
theorem eL_isSo_86 : decode method_19_code 86 = .ok (.iaload, 1) := by decide +kernel
theorem eL_isSo_87 : decode method_19_code 87 = .ok (.aload_n 1, 1) := by decide +kernel
theorem eL_isSo_88 : decode method_19_code 88 = .ok (.iconst 4, 1) := by decide +kernel
theorem eL_isSo_89 : decode method_19_code 89 = .ok (.iaload, 1) := by decide +kernel
theorem eL_isSo_90 : decode method_19_code 90 = .ok (.if_icmp .ge 7, 3) := by decide +kernel
theorem eL_isSo_93 : decode method_19_code 93 = .ok (.iconst 1, 1) := by decide +kernel
theorem eL_isSo_94 : decode method_19_code 94 = .ok (.goto 4, 3) := by decide +kernel
theorem eL_isSo_97 : decode method_19_code 97 = .ok (.iconst 0, 1) := by decide +kernel
theorem eL_isSo_98 : decode method_19_code 98 = .ok (.istore 9, 2) := by decide +kernel
theorem eL_isSo_100 : decode method_19_code 100 = .ok (.aload_n 0, 1) := by decide +kernel
theorem eL_isSo_101 : decode method_19_code 101 = .ok (.iload 7, 2) := by decide +kernel
theorem eL_isSo_103 : decode method_19_code 103 = .ok (.bipush 6, 2) := by decide +kernel
theorem eL_isSo_105 : decode method_19_code 105 = .ok (.invokevirtual 69, 3) := by decide +kernel
theorem eL_isSo_108 : decode method_19_code 108 = .ok (.iload 8, 2) := by decide +kernel
theorem eL_isSo_110 : decode method_19_code 110 = .ok (.ifCond .eq 7, 3) := by decide +kernel
theorem eL_isSo_113 : decode method_19_code 113 = .ok (.iconst 1, 1) := by decide +kernel
theorem eL_isSo_114 : decode method_19_code 114 = .ok (.goto 4, 3) := by decide +kernel
theorem eL_isSo_117 : decode method_19_code 117 = .ok (.iconst 0, 1) := by decide +kernel
theorem eL_isSo_118 : decode method_19_code 118 = .ok (.if_icmp .ne 41, 3) := by decide +kernel
theorem eL_isSo_121 : decode method_19_code 121 = .ok (.aload_n 0, 1) := by decide +kernel
theorem eL_isSo_122 : decode method_19_code 122 = .ok (.iload 7, 2) := by decide +kernel
theorem eL_isSo_124 : decode method_19_code 124 = .ok (.bipush 7, 2) := by decide +kernel
theorem eL_isSo_126 : decode method_19_code 126 = .ok (.invokevirtual 69, 3) := by decide +kernel
theorem eL_isSo_129 : decode method_19_code 129 = .ok (.iload 9, 2) := by decide +kernel
theorem eL_isSo_131 : decode method_19_code 131 = .ok (.ifCond .eq 7, 3) := by decide +kernel
theorem eL_isSo_134 : decode method_19_code 134 = .ok (.iconst 1, 1) := by decide +kernel
theorem eL_isSo_135 : decode method_19_code 135 = .ok (.goto 4, 3) := by decide +kernel
theorem eL_isSo_138 : decode method_19_code 138 = .ok (.iconst 0, 1) := by decide +kernel
theorem eL_isSo_139 : decode method_19_code 139 = .ok (.if_icmp .ne 20, 3) := by decide +kernel
theorem eL_isSo_142 : decode method_19_code 142 = .ok (.aload_n 0, 1) := by decide +kernel
theorem eL_isSo_143 : decode method_19_code 143 = .ok (.iload 7, 2) := by decide +kernel
theorem eL_isSo_145 : decode method_19_code 145 = .ok (.bipush 8, 2) := by decide +kernel
theorem eL_isSo_147 : decode method_19_code 147 = .ok (.invokevirtual 69, 3) := by decide +kernel
theorem eL_isSo_150 : decode method_19_code 150 = .ok (.aload_n 1, 1) := by decide +kernel
theorem eL_isSo_151 : decode method_19_code 151 = .ok (.iload 7, 2) := by decide +kernel
theorem eL_isSo_153 : decode method_19_code 153 = .ok (.invokestatic 24, 3) := by decide +kernel
theorem eL_isSo_156 : decode method_19_code 156 = .ok (.if_icmp .eq 5, 3) := by decide +kernel
theorem eL_isSo_159 : decode method_19_code 159 = .ok (.iconst 0, 1) := by decide +kernel
theorem eL_isSo_160 : decode method_19_code 160 = .ok (.ireturn, 1) := by decide +kernel
theorem eL_isSo_161 : decode method_19_code 161 = .ok (.iload_n 2, 1) := by decide +kernel
theorem eL_isSo_162 : decode method_19_code 162 = .ok (.aload_n 1, 1) := by decide +kernel
theorem eL_isSo_163 : decode method_19_code 163 = .ok (.bipush 10, 2) := by decide +kernel
theorem eL_isSo_165 : decode method_19_code 165 = .ok (.bipush 6, 2) := by decide +kernel
theorem eL_isSo_167 : decode method_19_code 167 = .ok (.iload 7, 2) := by decide +kernel
theorem eL_isSo_169 : decode method_19_code 169 = .ok (.imul, 1) := by decide +kernel
theorem eL_isSo_170 : decode method_19_code 170 = .ok (.iadd, 1) := by decide +kernel
theorem eL_isSo_171 : decode method_19_code 171 = .ok (.iaload, 1) := by decide +kernel
theorem eL_isSo_172 : decode method_19_code 172 = .ok (.ior, 1) := by decide +kernel
theorem eL_isSo_173 : decode method_19_code 173 = .ok (.istore_n 2, 1) := by decide +kernel
theorem eL_isSo_174 : decode method_19_code 174 = .ok (.iload_n 3, 1) := by decide +kernel
theorem eL_isSo_175 : decode method_19_code 175 = .ok (.aload_n 1, 1) := by decide +kernel
theorem eL_isSo_176 : decode method_19_code 176 = .ok (.bipush 11, 2) := by decide +kernel
theorem eL_isSo_178 : decode method_19_code 178 = .ok (.bipush 6, 2) := by decide +kernel
theorem eL_isSo_180 : decode method_19_code 180 = .ok (.iload 7, 2) := by decide +kernel
theorem eL_isSo_182 : decode method_19_code 182 = .ok (.imul, 1) := by decide +kernel
theorem eL_isSo_183 : decode method_19_code 183 = .ok (.iadd, 1) := by decide +kernel
theorem eL_isSo_184 : decode method_19_code 184 = .ok (.iaload, 1) := by decide +kernel
theorem eL_isSo_185 : decode method_19_code 185 = .ok (.iadd, 1) := by decide +kernel
theorem eL_isSo_186 : decode method_19_code 186 = .ok (.istore_n 3, 1) := by decide +kernel
theorem eL_isSo_187 : decode method_19_code 187 = .ok (.iload 4, 2) := by decide +kernel
theorem eL_isSo_189 : decode method_19_code 189 = .ok (.aload_n 1, 1) := by decide +kernel
theorem eL_isSo_190 : decode method_19_code 190 = .ok (.bipush 10, 2) := by decide +kernel
theorem eL_isSo_192 : decode method_19_code 192 = .ok (.bipush 6, 2) := by decide +kernel
theorem eL_isSo_194 : decode method_19_code 194 = .ok (.iload 7, 2) := by decide +kernel
theorem eL_isSo_196 : decode method_19_code 196 = .ok (.imul, 1) := by decide +kernel
theorem eL_isSo_197 : decode method_19_code 197 = .ok (.iadd, 1) := by decide +kernel
theorem eL_isSo_198 : decode method_19_code 198 = .ok (.iaload, 1) := by decide +kernel
theorem eL_isSo_199 : decode method_19_code 199 = .ok (.invokestatic 30, 3) := by decide +kernel
theorem eL_isSo_202 : decode method_19_code 202 = .ok (.iadd, 1) := by decide +kernel
theorem eL_isSo_203 : decode method_19_code 203 = .ok (.istore 4, 2) := by decide +kernel
theorem eL_isSo_205 : decode method_19_code 205 = .ok (.iload 9, 2) := by decide +kernel
theorem eL_isSo_207 : decode method_19_code 207 = .ok (.ifCond .eq 6, 3) := by decide +kernel
theorem eL_isSo_210 : decode method_19_code 210 = .ok (.iinc 5 1, 3) := by decide +kernel
theorem eL_isSo_213 : decode method_19_code 213 = .ok (.iload 8, 2) := by decide +kernel
theorem eL_isSo_215 : decode method_19_code 215 = .ok (.ifCond .eq 12, 3) := by decide +kernel
theorem eL_isSo_218 : decode method_19_code 218 = .ok (.iload 6, 2) := by decide +kernel
theorem eL_isSo_220 : decode method_19_code 220 = .ok (.iconst 1, 1) := by decide +kernel
theorem eL_isSo_221 : decode method_19_code 221 = .ok (.iload 7, 2) := by decide +kernel
theorem eL_isSo_223 : decode method_19_code 223 = .ok (.ishl, 1) := by decide +kernel
theorem eL_isSo_224 : decode method_19_code 224 = .ok (.ior, 1) := by decide +kernel
theorem eL_isSo_225 : decode method_19_code 225 = .ok (.istore 6, 2) := by decide +kernel
theorem eL_isSo_227 : decode method_19_code 227 = .ok (.iinc 7 1, 3) := by decide +kernel
theorem eL_isSo_230 : decode method_19_code 230 = .ok (.goto (-214), 3) := by decide +kernel
theorem eL_isSo_233 : decode method_19_code 233 = .ok (.iconst 0, 1) := by decide +kernel
theorem eL_isSo_234 : decode method_19_code 234 = .ok (.istore 7, 2) := by decide +kernel
theorem eL_isSo_236 : decode method_19_code 236 = .ok (.iload 7, 2) := by decide +kernel
theorem eL_isSo_238 : decode method_19_code 238 = .ok (.bipush 10, 2) := by decide +kernel
theorem eL_isSo_240 : decode method_19_code 240 = .ok (.if_icmp .ge 26, 3) := by decide +kernel
theorem eL_isSo_243 : decode method_19_code 243 = .ok (.aload_n 0, 1) := by decide +kernel
theorem eL_isSo_244 : decode method_19_code 244 = .ok (.iload 7, 2) := by decide +kernel
theorem eL_isSo_246 : decode method_19_code 246 = .ok (.invokevirtual 72, 3) := by decide +kernel
theorem eL_isSo_249 : decode method_19_code 249 = .ok (.aload_n 1, 1) := by decide +kernel
theorem eL_isSo_250 : decode method_19_code 250 = .ok (.iload 7, 2) := by decide +kernel
theorem eL_isSo_252 : decode method_19_code 252 = .ok (.invokestatic 7, 3) := by decide +kernel
theorem eL_isSo_255 : decode method_19_code 255 = .ok (.if_icmp .eq 5, 3) := by decide +kernel
theorem eL_isSo_258 : decode method_19_code 258 = .ok (.iconst 0, 1) := by decide +kernel
theorem eL_isSo_259 : decode method_19_code 259 = .ok (.ireturn, 1) := by decide +kernel
theorem eL_isSo_260 : decode method_19_code 260 = .ok (.iinc 7 1, 3) := by decide +kernel
theorem eL_isSo_263 : decode method_19_code 263 = .ok (.goto (-27), 3) := by decide +kernel
theorem eL_isSo_266 : decode method_19_code 266 = .ok (.iconst 0, 1) := by decide +kernel
theorem eL_isSo_267 : decode method_19_code 267 = .ok (.istore 7, 2) := by decide +kernel
theorem eL_isSo_269 : decode method_19_code 269 = .ok (.iload 7, 2) := by decide +kernel
theorem eL_isSo_271 : decode method_19_code 271 = .ok (.iconst 5, 1) := by decide +kernel
theorem eL_isSo_272 : decode method_19_code 272 = .ok (.if_icmp .ge 24, 3) := by decide +kernel
theorem eL_isSo_275 : decode method_19_code 275 = .ok (.aload_n 0, 1) := by decide +kernel
theorem eL_isSo_276 : decode method_19_code 276 = .ok (.iload 7, 2) := by decide +kernel
theorem eL_isSo_278 : decode method_19_code 278 = .ok (.invokevirtual 74, 3) := by decide +kernel
theorem eL_isSo_281 : decode method_19_code 281 = .ok (.aload_n 1, 1) := by decide +kernel
theorem eL_isSo_282 : decode method_19_code 282 = .ok (.iload 7, 2) := by decide +kernel
theorem eL_isSo_284 : decode method_19_code 284 = .ok (.iaload, 1) := by decide +kernel
theorem eL_isSo_285 : decode method_19_code 285 = .ok (.if_icmp .eq 5, 3) := by decide +kernel
theorem eL_isSo_288 : decode method_19_code 288 = .ok (.iconst 0, 1) := by decide +kernel
theorem eL_isSo_289 : decode method_19_code 289 = .ok (.ireturn, 1) := by decide +kernel
theorem eL_isSo_290 : decode method_19_code 290 = .ok (.iinc 7 1, 3) := by decide +kernel
theorem eL_isSo_293 : decode method_19_code 293 = .ok (.goto (-24), 3) := by decide +kernel
theorem eL_isSo_296 : decode method_19_code 296 = .ok (.aload_n 0, 1) := by decide +kernel
theorem eL_isSo_297 : decode method_19_code 297 = .ok (.iconst 5, 1) := by decide +kernel
theorem eL_isSo_298 : decode method_19_code 298 = .ok (.invokevirtual 74, 3) := by decide +kernel
theorem eL_isSo_301 : decode method_19_code 301 = .ok (.iload_n 2, 1) := by decide +kernel
theorem eL_isSo_302 : decode method_19_code 302 = .ok (.if_icmp .ne 60, 3) := by decide +kernel
theorem eL_isSo_305 : decode method_19_code 305 = .ok (.aload_n 0, 1) := by decide +kernel
theorem eL_isSo_306 : decode method_19_code 306 = .ok (.bipush 6, 2) := by decide +kernel
theorem eL_isSo_308 : decode method_19_code 308 = .ok (.invokevirtual 74, 3) := by decide +kernel
theorem eL_isSo_311 : decode method_19_code 311 = .ok (.iload_n 3, 1) := by decide +kernel
theorem eL_isSo_312 : decode method_19_code 312 = .ok (.if_icmp .ne 50, 3) := by decide +kernel
theorem eL_isSo_315 : decode method_19_code 315 = .ok (.aload_n 0, 1) := by decide +kernel
theorem eL_isSo_316 : decode method_19_code 316 = .ok (.aload_n 1, 1) := by decide +kernel
theorem eL_isSo_317 : decode method_19_code 317 = .ok (.iconst 0, 1) := by decide +kernel
theorem eL_isSo_318 : decode method_19_code 318 = .ok (.iaload, 1) := by decide +kernel
theorem eL_isSo_319 : decode method_19_code 319 = .ok (.invokevirtual 77, 3) := by decide +kernel
theorem eL_isSo_322 : decode method_19_code 322 = .ok (.iload 6, 2) := by decide +kernel
theorem eL_isSo_324 : decode method_19_code 324 = .ok (.if_icmp .ne 38, 3) := by decide +kernel
theorem eL_isSo_327 : decode method_19_code 327 = .ok (.aload_n 0, 1) := by decide +kernel
theorem eL_isSo_328 : decode method_19_code 328 = .ok (.iconst 0, 1) := by decide +kernel
theorem eL_isSo_329 : decode method_19_code 329 = .ok (.invokevirtual 79, 3) := by decide +kernel
theorem eL_isSo_332 : decode method_19_code 332 = .ok (.aload_n 1, 1) := by decide +kernel
theorem eL_isSo_333 : decode method_19_code 333 = .ok (.iconst 5, 1) := by decide +kernel
theorem eL_isSo_334 : decode method_19_code 334 = .ok (.iaload, 1) := by decide +kernel
theorem eL_isSo_335 : decode method_19_code 335 = .ok (.if_icmp .ne 27, 3) := by decide +kernel
theorem eL_isSo_338 : decode method_19_code 338 = .ok (.aload_n 0, 1) := by decide +kernel
theorem eL_isSo_339 : decode method_19_code 339 = .ok (.iconst 2, 1) := by decide +kernel
theorem eL_isSo_340 : decode method_19_code 340 = .ok (.invokevirtual 79, 3) := by decide +kernel
theorem eL_isSo_343 : decode method_19_code 343 = .ok (.iload 4, 2) := by decide +kernel
theorem eL_isSo_345 : decode method_19_code 345 = .ok (.if_icmp .ne 17, 3) := by decide +kernel
theorem eL_isSo_348 : decode method_19_code 348 = .ok (.aload_n 0, 1) := by decide +kernel
theorem eL_isSo_349 : decode method_19_code 349 = .ok (.iconst 3, 1) := by decide +kernel
theorem eL_isSo_350 : decode method_19_code 350 = .ok (.invokevirtual 79, 3) := by decide +kernel
theorem eL_isSo_353 : decode method_19_code 353 = .ok (.iload 5, 2) := by decide +kernel
theorem eL_isSo_355 : decode method_19_code 355 = .ok (.if_icmp .ne 7, 3) := by decide +kernel
theorem eL_isSo_358 : decode method_19_code 358 = .ok (.iconst 1, 1) := by decide +kernel
theorem eL_isSo_359 : decode method_19_code 359 = .ok (.goto 4, 3) := by decide +kernel
theorem eL_isSo_362 : decode method_19_code 362 = .ok (.iconst 0, 1) := by decide +kernel
theorem eL_isSo_363 : decode method_19_code 363 = .ok (.ireturn, 1) := by decide +kernel
theorem eL_duty_0 : decode method_4_code 0 = .ok (.aload_n 0, 1) := by decide +kernel
theorem eL_duty_1 : decode method_4_code 1 = .ok (.bipush 6, 2) := by decide +kernel
theorem eL_duty_3 : decode method_4_code 3 = .ok (.bipush 6, 2) := by decide +kernel
theorem eL_duty_5 : decode method_4_code 5 = .ok (.iload_n 1, 1) := by decide +kernel
theorem eL_duty_6 : decode method_4_code 6 = .ok (.imul, 1) := by decide +kernel
theorem eL_duty_7 : decode method_4_code 7 = .ok (.iadd, 1) := by decide +kernel
theorem eL_duty_8 : decode method_4_code 8 = .ok (.iaload, 1) := by decide +kernel
theorem eL_duty_9 : decode method_4_code 9 = .ok (.istore_n 3, 1) := by decide +kernel
theorem eL_duty_10 : decode method_4_code 10 = .ok (.aload_n 0, 1) := by decide +kernel
theorem eL_duty_11 : decode method_4_code 11 = .ok (.bipush 9, 2) := by decide +kernel
theorem eL_duty_13 : decode method_4_code 13 = .ok (.bipush 6, 2) := by decide +kernel
theorem eL_duty_15 : decode method_4_code 15 = .ok (.iload_n 1, 1) := by decide +kernel
theorem eL_duty_16 : decode method_4_code 16 = .ok (.imul, 1) := by decide +kernel
theorem eL_duty_17 : decode method_4_code 17 = .ok (.iadd, 1) := by decide +kernel
theorem eL_duty_18 : decode method_4_code 18 = .ok (.iaload, 1) := by decide +kernel
theorem eL_duty_19 : decode method_4_code 19 = .ok (.istore 4, 2) := by decide +kernel
theorem eL_duty_21 : decode method_4_code 21 = .ok (.iload_n 2, 1) := by decide +kernel
theorem eL_duty_22 : decode method_4_code 22 = .ok (.aload_n 0, 1) := by decide +kernel
theorem eL_duty_23 : decode method_4_code 23 = .ok (.iconst 1, 1) := by decide +kernel
theorem eL_duty_24 : decode method_4_code 24 = .ok (.iaload, 1) := by decide +kernel
theorem eL_duty_25 : decode method_4_code 25 = .ok (.irem, 1) := by decide +kernel
theorem eL_duty_26 : decode method_4_code 26 = .ok (.istore 5, 2) := by decide +kernel
theorem eL_duty_28 : decode method_4_code 28 = .ok (.iload_n 2, 1) := by decide +kernel
theorem eL_duty_29 : decode method_4_code 29 = .ok (.aload_n 0, 1) := by decide +kernel
theorem eL_duty_30 : decode method_4_code 30 = .ok (.iconst 1, 1) := by decide +kernel
theorem eL_duty_31 : decode method_4_code 31 = .ok (.iaload, 1) := by decide +kernel
theorem eL_duty_32 : decode method_4_code 32 = .ok (.idiv, 1) := by decide +kernel
theorem eL_duty_33 : decode method_4_code 33 = .ok (.iconst 4, 1) := by decide +kernel
theorem eL_duty_34 : decode method_4_code 34 = .ok (.irem, 1) := by decide +kernel
theorem eL_duty_35 : decode method_4_code 35 = .ok (.istore 6, 2) := by decide +kernel
theorem eL_duty_37 : decode method_4_code 37 = .ok (.iload_n 3, 1) := by decide +kernel
theorem eL_duty_38 : decode method_4_code 38 = .ok (.iconst 4, 1) := by decide +kernel
theorem eL_duty_39 : decode method_4_code 39 = .ok (.if_icmp .ne 21, 3) := by decide +kernel
theorem eL_duty_42 : decode method_4_code 42 = .ok (.aload_n 0, 1) := by decide +kernel
theorem eL_duty_43 : decode method_4_code 43 = .ok (.iconst 3, 1) := by decide +kernel
theorem eL_duty_44 : decode method_4_code 44 = .ok (.iaload, 1) := by decide +kernel
theorem eL_duty_45 : decode method_4_code 45 = .ok (.iconst 3, 1) := by decide +kernel
theorem eL_duty_46 : decode method_4_code 46 = .ok (.if_icmp .ne 14, 3) := by decide +kernel
theorem eL_duty_49 : decode method_4_code 49 = .ok (.iload 5, 2) := by decide +kernel
theorem eL_duty_51 : decode method_4_code 51 = .ok (.ifCond .ne 7, 3) := by decide +kernel
theorem eL_duty_54 : decode method_4_code 54 = .ok (.iconst 1, 1) := by decide +kernel
theorem eL_duty_55 : decode method_4_code 55 = .ok (.goto 4, 3) := by decide +kernel
theorem eL_duty_58 : decode method_4_code 58 = .ok (.iconst 0, 1) := by decide +kernel
theorem eL_duty_59 : decode method_4_code 59 = .ok (.ireturn, 1) := by decide +kernel
theorem eL_duty_60 : decode method_4_code 60 = .ok (.iload 5, 2) := by decide +kernel
theorem eL_duty_62 : decode method_4_code 62 = .ok (.aload_n 0, 1) := by decide +kernel
theorem eL_duty_63 : decode method_4_code 63 = .ok (.iconst 2, 1) := by decide +kernel
theorem eL_duty_64 : decode method_4_code 64 = .ok (.iaload, 1) := by decide +kernel
theorem eL_duty_65 : decode method_4_code 65 = .ok (.if_icmp .lt 15, 3) := by decide +kernel
theorem eL_duty_68 : decode method_4_code 68 = .ok (.iload_n 3, 1) := by decide +kernel
theorem eL_duty_69 : decode method_4_code 69 = .ok (.iconst 1, 1) := by decide +kernel
theorem eL_duty_70 : decode method_4_code 70 = .ok (.if_icmp .ne 12, 3) := by decide +kernel
theorem eL_duty_73 : decode method_4_code 73 = .ok (.aload_n 0, 1) := by decide +kernel
theorem eL_duty_74 : decode method_4_code 74 = .ok (.iconst 3, 1) := by decide +kernel
theorem eL_duty_75 : decode method_4_code 75 = .ok (.iaload, 1) := by decide +kernel
theorem eL_duty_76 : decode method_4_code 76 = .ok (.iconst 3, 1) := by decide +kernel
theorem eL_duty_77 : decode method_4_code 77 = .ok (.if_icmp .ne 5, 3) := by decide +kernel
theorem eL_duty_80 : decode method_4_code 80 = .ok (.iconst 0, 1) := by decide +kernel
theorem eL_duty_81 : decode method_4_code 81 = .ok (.ireturn, 1) := by decide +kernel
theorem eL_duty_82 : decode method_4_code 82 = .ok (.iload 6, 2) := by decide +kernel
theorem eL_duty_84 : decode method_4_code 84 = .ok (.iload 4, 2) := by decide +kernel
theorem eL_duty_86 : decode method_4_code 86 = .ok (.if_icmp .eq 19, 3) := by decide +kernel
theorem eL_duty_89 : decode method_4_code 89 = .ok (.iload_n 3, 1) := by decide +kernel
theorem eL_duty_90 : decode method_4_code 90 = .ok (.iconst 5, 1) := by decide +kernel
theorem eL_duty_91 : decode method_4_code 91 = .ok (.if_icmp .ne 18, 3) := by decide +kernel
theorem eL_duty_94 : decode method_4_code 94 = .ok (.iload 6, 2) := by decide +kernel
theorem eL_duty_96 : decode method_4_code 96 = .ok (.iload 4, 2) := by decide +kernel
theorem eL_duty_98 : decode method_4_code 98 = .ok (.iconst 1, 1) := by decide +kernel
theorem eL_duty_99 : decode method_4_code 99 = .ok (.iadd, 1) := by decide +kernel
theorem eL_duty_100 : decode method_4_code 100 = .ok (.iconst 4, 1) := by decide +kernel
theorem eL_duty_101 : decode method_4_code 101 = .ok (.irem, 1) := by decide +kernel
theorem eL_duty_102 : decode method_4_code 102 = .ok (.if_icmp .ne 7, 3) := by decide +kernel
theorem eL_duty_105 : decode method_4_code 105 = .ok (.iconst 1, 1) := by decide +kernel
theorem eL_duty_106 : decode method_4_code 106 = .ok (.goto 4, 3) := by decide +kernel
theorem eL_duty_109 : decode method_4_code 109 = .ok (.iconst 0, 1) := by decide +kernel
theorem eL_duty_110 : decode method_4_code 110 = .ok (.ireturn, 1) := by decide +kernel
theorem eL_tires_0 : decode method_6_code 0 = .ok (.aload_n 0, 1) := by decide +kernel
theorem eL_tires_1 : decode method_6_code 1 = .ok (.bipush 6, 2) := by decide +kernel
theorem eL_tires_3 : decode method_6_code 3 = .ok (.bipush 6, 2) := by decide +kernel
theorem eL_tires_5 : decode method_6_code 5 = .ok (.iload_n 1, 1) := by decide +kernel
theorem eL_tires_6 : decode method_6_code 6 = .ok (.imul, 1) := by decide +kernel
theorem eL_tires_7 : decode method_6_code 7 = .ok (.iadd, 1) := by decide +kernel
theorem eL_tires_8 : decode method_6_code 8 = .ok (.iaload, 1) := by decide +kernel
theorem eL_tires_9 : decode method_6_code 9 = .ok (.istore_n 2, 1) := by decide +kernel
theorem eL_tires_10 : decode method_6_code 10 = .ok (.iload_n 2, 1) := by decide +kernel
theorem eL_tires_11 : decode method_6_code 11 = .ok (.iconst 4, 1) := by decide +kernel
theorem eL_tires_12 : decode method_6_code 12 = .ok (.if_icmp .ne 7, 3) := by decide +kernel
theorem eL_tires_15 : decode method_6_code 15 = .ok (.iconst 0, 1) := by decide +kernel
theorem eL_tires_16 : decode method_6_code 16 = .ok (.goto 18, 3) := by decide +kernel
theorem eL_tires_19 : decode method_6_code 19 = .ok (.iload_n 2, 1) := by decide +kernel
theorem eL_tires_20 : decode method_6_code 20 = .ok (.iconst 3, 1) := by decide +kernel
theorem eL_tires_21 : decode method_6_code 21 = .ok (.if_icmp .eq 8, 3) := by decide +kernel
theorem eL_tires_24 : decode method_6_code 24 = .ok (.iload_n 2, 1) := by decide +kernel
theorem eL_tires_25 : decode method_6_code 25 = .ok (.iconst 5, 1) := by decide +kernel
theorem eL_tires_26 : decode method_6_code 26 = .ok (.if_icmp .ne 7, 3) := by decide +kernel
theorem eL_tires_29 : decode method_6_code 29 = .ok (.iconst 2, 1) := by decide +kernel
theorem eL_tires_30 : decode method_6_code 30 = .ok (.goto 4, 3) := by decide +kernel
theorem eL_tires_33 : decode method_6_code 33 = .ok (.iconst 1, 1) := by decide +kernel
theorem eL_tires_34 : decode method_6_code 34 = .ok (.ireturn, 1) := by decide +kernel
theorem eL_reach_0 : decode method_7_code 0 = .ok (.iconst 1, 1) := by decide +kernel
theorem eL_reach_1 : decode method_7_code 1 = .ok (.iload_n 1, 1) := by decide +kernel
theorem eL_reach_2 : decode method_7_code 2 = .ok (.ishl, 1) := by decide +kernel
theorem eL_reach_3 : decode method_7_code 3 = .ok (.istore_n 2, 1) := by decide +kernel
theorem eL_reach_4 : decode method_7_code 4 = .ok (.iconst 0, 1) := by decide +kernel
theorem eL_reach_5 : decode method_7_code 5 = .ok (.istore_n 3, 1) := by decide +kernel
theorem eL_reach_6 : decode method_7_code 6 = .ok (.iload_n 3, 1) := by decide +kernel
theorem eL_reach_7 : decode method_7_code 7 = .ok (.bipush 10, 2) := by decide +kernel
theorem eL_reach_9 : decode method_7_code 9 = .ok (.if_icmp .ge 79, 3) := by decide +kernel
theorem eL_reach_12 : decode method_7_code 12 = .ok (.iconst 0, 1) := by decide +kernel
theorem eL_reach_13 : decode method_7_code 13 = .ok (.istore 4, 2) := by decide +kernel
theorem eL_reach_15 : decode method_7_code 15 = .ok (.iload 4, 2) := by decide +kernel
theorem eL_reach_17 : decode method_7_code 17 = .ok (.aload_n 0, 1) := by decide +kernel
theorem eL_reach_18 : decode method_7_code 18 = .ok (.iconst 5, 1) := by decide +kernel
theorem eL_reach_19 : decode method_7_code 19 = .ok (.iaload, 1) := by decide +kernel
theorem eL_reach_20 : decode method_7_code 20 = .ok (.if_icmp .ge 62, 3) := by decide +kernel
theorem eL_reach_23 : decode method_7_code 23 = .ok (.iconst 1, 1) := by decide +kernel
theorem eL_reach_24 : decode method_7_code 24 = .ok (.aload_n 0, 1) := by decide +kernel
theorem eL_reach_25 : decode method_7_code 25 = .ok (.bipush 7, 2) := by decide +kernel
theorem eL_reach_27 : decode method_7_code 27 = .ok (.bipush 6, 2) := by decide +kernel
theorem eL_reach_29 : decode method_7_code 29 = .ok (.iload 4, 2) := by decide +kernel
theorem eL_reach_31 : decode method_7_code 31 = .ok (.imul, 1) := by decide +kernel
theorem eL_reach_32 : decode method_7_code 32 = .ok (.iadd, 1) := by decide +kernel
theorem eL_reach_33 : decode method_7_code 33 = .ok (.iaload, 1) := by decide +kernel
theorem eL_reach_34 : decode method_7_code 34 = .ok (.ishl, 1) := by decide +kernel
theorem eL_reach_35 : decode method_7_code 35 = .ok (.iconst 1, 1) := by decide +kernel
theorem eL_reach_36 : decode method_7_code 36 = .ok (.aload_n 0, 1) := by decide +kernel
theorem eL_reach_37 : decode method_7_code 37 = .ok (.bipush 8, 2) := by decide +kernel
theorem eL_reach_39 : decode method_7_code 39 = .ok (.bipush 6, 2) := by decide +kernel
theorem eL_reach_41 : decode method_7_code 41 = .ok (.iload 4, 2) := by decide +kernel
theorem eL_reach_43 : decode method_7_code 43 = .ok (.imul, 1) := by decide +kernel
theorem eL_reach_44 : decode method_7_code 44 = .ok (.iadd, 1) := by decide +kernel
theorem eL_reach_45 : decode method_7_code 45 = .ok (.iaload, 1) := by decide +kernel
theorem eL_reach_46 : decode method_7_code 46 = .ok (.ishl, 1) := by decide +kernel
theorem eL_reach_47 : decode method_7_code 47 = .ok (.ior, 1) := by decide +kernel
theorem eL_reach_48 : decode method_7_code 48 = .ok (.istore 5, 2) := by decide +kernel
theorem eL_reach_50 : decode method_7_code 50 = .ok (.aload_n 0, 1) := by decide +kernel
theorem eL_reach_51 : decode method_7_code 51 = .ok (.bipush 6, 2) := by decide +kernel
theorem eL_reach_53 : decode method_7_code 53 = .ok (.bipush 6, 2) := by decide +kernel
theorem eL_reach_55 : decode method_7_code 55 = .ok (.iload 4, 2) := by decide +kernel
theorem eL_reach_57 : decode method_7_code 57 = .ok (.imul, 1) := by decide +kernel
theorem eL_reach_58 : decode method_7_code 58 = .ok (.iadd, 1) := by decide +kernel
theorem eL_reach_59 : decode method_7_code 59 = .ok (.iaload, 1) := by decide +kernel
theorem eL_reach_60 : decode method_7_code 60 = .ok (.iconst 3, 1) := by decide +kernel
theorem eL_reach_61 : decode method_7_code 61 = .ok (.if_icmp .ne 15, 3) := by decide +kernel
theorem eL_reach_64 : decode method_7_code 64 = .ok (.iload 5, 2) := by decide +kernel
theorem eL_reach_66 : decode method_7_code 66 = .ok (.iload_n 2, 1) := by decide +kernel
theorem eL_reach_67 : decode method_7_code 67 = .ok (.iand, 1) := by decide +kernel
theorem eL_reach_68 : decode method_7_code 68 = .ok (.ifCond .eq 8, 3) := by decide +kernel
theorem eL_reach_71 : decode method_7_code 71 = .ok (.iload_n 2, 1) := by decide +kernel
theorem eL_reach_72 : decode method_7_code 72 = .ok (.iload 5, 2) := by decide +kernel
theorem eL_reach_74 : decode method_7_code 74 = .ok (.ior, 1) := by decide +kernel
theorem eL_reach_75 : decode method_7_code 75 = .ok (.istore_n 2, 1) := by decide +kernel
theorem eL_reach_76 : decode method_7_code 76 = .ok (.iinc 4 1, 3) := by decide +kernel
theorem eL_reach_79 : decode method_7_code 79 = .ok (.goto (-64), 3) := by decide +kernel
theorem eL_reach_82 : decode method_7_code 82 = .ok (.iinc 3 1, 3) := by decide +kernel
theorem eL_reach_85 : decode method_7_code 85 = .ok (.goto (-79), 3) := by decide +kernel
theorem eL_reach_88 : decode method_7_code 88 = .ok (.iload_n 2, 1) := by decide +kernel
theorem eL_reach_89 : decode method_7_code 89 = .ok (.ireturn, 1) := by decide +kernel
def dL_at (LL : Nat) (xs : Nat → Int32) (f : Nat) (a1 : Int32) (mem : Mem) : Option (Int32 × Mem) := if a1 < (Int32.ofNat LL) then (ck a1 LL (some ((xs a1.toNatClampNeg), mem))) else (some ((((41 : Int32) * a1) + (13 : Int32)), mem))
def dL_mod (f : Nat) (a0 : Int32) (a1 : Int32) (mem : Mem) : Option (Int32 × Mem) := if a1 = 0 then none else (if (a0 % a1) < 0 then (some (((a0 % a1) + a1), mem)) else (some ((a0 % a1), mem)))
def dL_wall (f : Nat) (a2 : Int32) (a3 : Int32) (a4 : Int32) (mem : Mem) : Option (Int32 × Mem) := bd (dW_wall f a2 a3 a4 mem) (fun r1 m1 => if r1 = (gI mem 13 0 5) then (ck ((6 : Int32) + ((6 : Int32) * (gI mem 13 0 5))) 66 (ck ((7 : Int32) + ((6 : Int32) * (gI mem 13 0 5))) 66 (ck ((8 : Int32) + ((6 : Int32) * (gI mem 13 0 5))) 66 (ck ((9 : Int32) + ((6 : Int32) * (gI mem 13 0 5))) 66 (ck ((10 : Int32) + ((6 : Int32) * (gI mem 13 0 5))) 66 (ck ((11 : Int32) + ((6 : Int32) * (gI mem 13 0 5))) 66 (some ((1 : Int32), (sI (sI (sI (sI (sI (sI (sI m1 13 0 ((6 : Int32) + ((6 : Int32) * (gI mem 13 0 5))).toNatClampNeg a2) 13 0 ((7 : Int32) + ((6 : Int32) * (gI mem 13 0 5))).toNatClampNeg a3) 13 0 ((8 : Int32) + ((6 : Int32) * (gI mem 13 0 5))).toNatClampNeg a4) 13 0 ((9 : Int32) + ((6 : Int32) * (gI mem 13 0 5))).toNatClampNeg (0 : Int32)) 13 0 ((10 : Int32) + ((6 : Int32) * (gI mem 13 0 5))).toNatClampNeg (0 : Int32)) 13 0 ((11 : Int32) + ((6 : Int32) * (gI mem 13 0 5))).toNatClampNeg (0 : Int32)) 13 0 5 ((gI (sI (sI (sI (sI (sI (sI m1 13 0 ((6 : Int32) + ((6 : Int32) * (gI mem 13 0 5))).toNatClampNeg a2) 13 0 ((7 : Int32) + ((6 : Int32) * (gI mem 13 0 5))).toNatClampNeg a3) 13 0 ((8 : Int32) + ((6 : Int32) * (gI mem 13 0 5))).toNatClampNeg a4) 13 0 ((9 : Int32) + ((6 : Int32) * (gI mem 13 0 5))).toNatClampNeg (0 : Int32)) 13 0 ((10 : Int32) + ((6 : Int32) * (gI mem 13 0 5))).toNatClampNeg (0 : Int32)) 13 0 ((11 : Int32) + ((6 : Int32) * (gI mem 13 0 5))).toNatClampNeg (0 : Int32)) 13 0 5) + (1 : Int32))))))))))) else (some ((0 : Int32), m1)))
def dL_minute_20 (f : Nat) : Nat → Int32 → Mem → Option (Unit × Mem)
  | 0, _, _ => none
  | n + 1, x1, mem => if x1 < (gI mem 13 0 5) then (ck ((9 : Int32) + ((6 : Int32) * x1)) 66 (if (gI mem 13 0 1) = 0 then none else (if (4 : Int32) = 0 then none else (if (gI mem 13 0 ((9 : Int32) + ((6 : Int32) * x1)).toNatClampNeg) = (((gI mem 13 0 0) / (gI mem 13 0 1)) % (4 : Int32)) then (ck ((11 : Int32) + ((6 : Int32) * x1)) 66 (dL_minute_20 f n (x1 + (1 : Int32)) (sI mem 13 0 ((11 : Int32) + ((6 : Int32) * x1)).toNatClampNeg (0 : Int32)))) else (dL_minute_20 f n (x1 + (1 : Int32)) mem))))) else (some ((), mem))
def dL_minute (f : Nat)  (mem : Mem) : Option (Unit × Mem) := if (gI (sI mem 13 0 0 ((gI mem 13 0 0) + (1 : Int32))) 13 0 1) = 0 then none else (if 0 < ((gI (sI mem 13 0 0 ((gI mem 13 0 0) + (1 : Int32))) 13 0 0) % (gI (sI mem 13 0 0 ((gI mem 13 0 0) + (1 : Int32))) 13 0 1)) then (some ((), (sI mem 13 0 0 ((gI mem 13 0 0) + (1 : Int32))))) else (dL_minute_20 f f (0 : Int32) (sI mem 13 0 0 ((gI mem 13 0 0) + (1 : Int32)))))
def dL_lay_223 (LL : Nat) (xs : Nat → Int32) (f : Nat) (k143 : Int32 → Int32 → Int32 → Mem → Option (Int32 × Mem)) (x3 : Int32) (x4 : Int32) (x5 : Int32) (x6 : Int32) (s2 : Int32) (s3 : Int32) (s4 : Int32) (s5 : Int32) (mem : Mem) : Option (Int32 × Mem) := bd (dL_mod f s4 s5 mem) (fun r1 m1 => bd (dL_wall f s2 s3 r1 m1) (fun r2 m2 => if r2 = 0 then (some ((0 : Int32), m2)) else (bd (dW_set f x5 (3 : Int32) ((x6 >>> ((10 : Int32) &&& 31)) &&& (3 : Int32)) m2) (fun r3 m3 => if r3 = 0 then (ck ((9 : Int32) + ((6 : Int32) * x5)) 66 (if 0 < ((x6 >>> ((12 : Int32) &&& 31)) &&& (3 : Int32)) then (k143 x3 x4 (x5 + (1 : Int32)) (sI m3 13 0 ((9 : Int32) + ((6 : Int32) * x5)).toNatClampNeg ((x6 >>> ((10 : Int32) &&& 31)) &&& (3 : Int32)))) else (bd (dL_mod f (x6 * (31 : Int32)) (65536 : Int32) (sI m3 13 0 ((9 : Int32) + ((6 : Int32) * x5)).toNatClampNeg ((x6 >>> ((10 : Int32) &&& 31)) &&& (3 : Int32)))) (fun r4 m4 => bd (dL_mod f (x6 >>> ((8 : Int32) &&& 31)) (9 : Int32) m4) (fun r5 m5 => bd (dW_set f x5 (4 : Int32) r4 m5) (fun r6 m6 => if r6 = 0 then (bd (dW_set f x5 (5 : Int32) r5 m6) (fun r7 m7 => if r7 = 0 then (ck ((10 : Int32) + ((6 : Int32) * x5)) 66 (ck ((11 : Int32) + ((6 : Int32) * x5)) 66 (k143 x3 x4 (x5 + (1 : Int32)) (sI (sI m7 13 0 ((10 : Int32) + ((6 : Int32) * x5)).toNatClampNeg r4) 13 0 ((11 : Int32) + ((6 : Int32) * x5)).toNatClampNeg r5)))) else (some ((0 : Int32), m7)))) else (some ((0 : Int32), m6)))))))) else (some ((0 : Int32), m3))))))
def dL_lay_199 (LL : Nat) (xs : Nat → Int32) (f : Nat) (k143 : Int32 → Int32 → Int32 → Mem → Option (Int32 × Mem)) (x3 : Int32) (x4 : Int32) (x5 : Int32) (x6 : Int32) (s2 : Int32) (s3 : Int32) (s4 : Int32) (mem : Mem) : Option (Int32 × Mem) := bd (dL_mod f s3 s4 mem) (fun r1 m1 => if ((x6 >>> ((14 : Int32) &&& 31)) &&& (1 : Int32)) = 0 then (dL_lay_223 LL xs f k143 x3 x4 x5 x6 s2 r1 (x6 >>> ((6 : Int32) &&& 31)) (3 : Int32) m1) else (dL_lay_223 LL xs f k143 x3 x4 x5 x6 s2 r1 (x6 >>> ((6 : Int32) &&& 31)) (10 : Int32) m1))
def dL_lay_376 (LL : Nat) (xs : Nat → Int32) (f : Nat) : Nat → Int32 → Int32 → Mem → Option (Int32 × Mem)
  | 0, _, _, _ => none
  | n + 1, x5, x6, mem => if x6 < x5 then (bd (dL_minute f  mem) (fun r1 m1 => dL_lay_376 LL xs f n x5 (x6 + (1 : Int32)) m1)) else (if x5 = 0 then (some ((1 : Int32), mem)) else (bd (dW_pass f x5 mem) (fun r2 m2 => if r2 = x5 then (some ((1 : Int32), m2)) else (some ((0 : Int32), m2)))))
def dL_lay_143 (LL : Nat) (xs : Nat → Int32) (f : Nat) : Nat → Int32 → Int32 → Int32 → Mem → Option (Int32 × Mem)
  | 0, _, _, _, _ => none
  | n + 1, x3, x4, x5, mem => if x5 < x4 then (if (5 : Int32) = 0 then none else (bd (dL_at LL xs f ((1 : Int32) + (x5 % (5 : Int32))) mem) (fun r1 m1 => if (5 : Int32) = 0 then none else (bd (dL_mod f (r1 >>> (((15 : Int32) * (x5 / (5 : Int32))) &&& 31)) (6 : Int32) m1) (fun r2 m2 => if (((r1 >>> (((15 : Int32) * (x5 / (5 : Int32))) &&& 31)) >>> ((14 : Int32) &&& 31)) &&& (1 : Int32)) = 0 then (dL_lay_199 LL xs f (fun x3_ x4_ x5_ mem_ => dL_lay_143 LL xs f n x3_ x4_ x5_ mem_) x3 x4 x5 (r1 >>> (((15 : Int32) * (x5 / (5 : Int32))) &&& 31)) r2 ((r1 >>> (((15 : Int32) * (x5 / (5 : Int32))) &&& 31)) >>> ((3 : Int32) &&& 31)) (3 : Int32) m2) else (dL_lay_199 LL xs f (fun x3_ x4_ x5_ mem_ => dL_lay_143 LL xs f n x3_ x4_ x5_ mem_) x3 x4 x5 (r1 >>> (((15 : Int32) * (x5 / (5 : Int32))) &&& 31)) r2 ((r1 >>> (((15 : Int32) * (x5 / (5 : Int32))) &&& 31)) >>> ((3 : Int32) &&& 31)) (10 : Int32) m2)))))) else (bd (dL_mod f (x3 >>> ((20 : Int32) &&& 31)) (40 : Int32) mem) (fun r3 m3 => dL_lay_376 LL xs f f r3 (0 : Int32) m3))
def dL_lay_50 (LL : Nat) (xs : Nat → Int32) (f : Nat) (x3 : Int32) (s1 : Int32) (s2 : Int32) (s3 : Int32) (mem : Mem) : Option (Int32 × Mem) := bd (dL_mod f s2 s3 mem) (fun r1 m1 => ck s1 66 (bd (dL_mod f (x3 >>> ((11 : Int32) &&& 31)) (20 : Int32) (sI (sI m1 13 0 s1.toNatClampNeg r1) 13 0 3 ((x3 >>> ((9 : Int32) &&& 31)) &&& (3 : Int32)))) (fun r2 m2 => bd (dW_rota f (0 : Int32) (gI (sI m2 13 0 4 ((1 : Int32) + r2)) 13 0 1) (sI m2 13 0 4 ((1 : Int32) + r2))) (fun r3 m3 => if r3 = (15 : Int32) then (bd (dW_rota f (1 : Int32) (gI m3 13 0 2) m3) (fun r4 m4 => if r4 = (2 : Int32) then (bd (dW_rota f (2 : Int32) (gI m4 13 0 3) m4) (fun r5 m5 => if r5 = 0 then (bd (dW_rota f (3 : Int32) (gI m5 13 0 4) m5) (fun r6 m6 => if r6 = (5 : Int32) then (bd (dL_mod f (x3 >>> ((16 : Int32) &&& 31)) (10 : Int32) m6) (fun r7 m7 => dL_lay_143 LL xs f f x3 ((1 : Int32) + r7) (0 : Int32) m7)) else (some ((0 : Int32), m6)))) else (some ((0 : Int32), m5)))) else (some ((0 : Int32), m4)))) else (some ((0 : Int32), m3))))))
def dL_lay_25 (LL : Nat) (xs : Nat → Int32) (f : Nat) (x3 : Int32) (s1 : Int32) (s2 : Int32) (s3 : Int32) (s4 : Int32) (mem : Mem) : Option (Int32 × Mem) := bd (dL_mod f s3 s4 mem) (fun r1 m1 => ck s1 66 (if ((x3 >>> ((7 : Int32) &&& 31)) &&& (3 : Int32)) = 0 then (dL_lay_50 LL xs f x3 (2 : Int32) (x3 >>> ((5 : Int32) &&& 31)) (12 : Int32) (sI m1 13 0 s1.toNatClampNeg (s2 + r1))) else (dL_lay_50 LL xs f x3 (2 : Int32) (x3 >>> ((5 : Int32) &&& 31)) (3 : Int32) (sI m1 13 0 s1.toNatClampNeg (s2 + r1)))))
def dL_lay (LL : Nat) (xs : Nat → Int32) (f : Nat)  (mem : Mem) : Option (Int32 × Mem) := bd (dL_at LL xs f (0 : Int32) mem) (fun r1 m1 => if ((r1 >>> ((3 : Int32) &&& 31)) &&& (3 : Int32)) = 0 then (dL_lay_25 LL xs f r1 (1 : Int32) (1 : Int32) r1 (60 : Int32) m1) else (dL_lay_25 LL xs f r1 (1 : Int32) (1 : Int32) r1 (9 : Int32) m1))
def dL_isUnheard_9 (f : Nat) : Nat → Int32 → Int32 → Int32 → Mem → Option (Int32 × Mem)
  | 0, _, _, _, _ => none
  | n + 1, x2, x3, x4, mem => bd (dW_count f (0 : Int32) mem) (fun r1 m1 => if x4 < r1 then (if ((x2 >>> (x4 &&& 31)) &&& (1 : Int32)) = (1 : Int32) then (bd (dW_of f x4 (6 : Int32) m1) (fun r2 m2 => if r2 = (1 : Int32) then (bd (dW_of f x4 (1 : Int32) m2) (fun r3 m3 => bd (dW_of f x4 (2 : Int32) m3) (fun r4 m4 => if ((((1 : Int32) <<< (r3 &&& 31)) ||| ((1 : Int32) <<< (r4 &&& 31))) &&& x3) = 0 then (dL_isUnheard_9 f n x2 x3 (x4 + (1 : Int32)) m4) else (some ((0 : Int32), m4))))) else (dL_isUnheard_9 f n x2 x3 (x4 + (1 : Int32)) m2))) else (dL_isUnheard_9 f n x2 x3 (x4 + (1 : Int32)) m1)) else (some ((1 : Int32), m1)))
def dL_isUnheard (f : Nat) (a1 : Int32) (a2 : Int32) (mem : Mem) : Option (Int32 × Mem) := bd (dW_reach f a1 mem) (fun r1 m1 => dL_isUnheard_9 f f a2 r1 (0 : Int32) m1)
def dL_ones_4 (f : Nat) : Nat → Int32 → Int32 → Int32 → Mem → Option (Int32 × Mem)
  | 0, _, _, _, _ => none
  | n + 1, x0, x1, x2, mem => if x2 < (16 : Int32) then (dL_ones_4 f n x0 (x1 + ((x0 >>> (x2 &&& 31)) &&& (1 : Int32))) (x2 + (1 : Int32)) mem) else (some (x1, mem))
def dL_ones (f : Nat) (a0 : Int32) (mem : Mem) : Option (Int32 × Mem) := dL_ones_4 f f a0 (0 : Int32) (0 : Int32) mem
def dL_duty_82 (f : Nat) (x3 : Int32) (x4 : Int32) (x6 : Int32) (mem : Mem) : Option (Int32 × Mem) := if x6 = x4 then (some ((1 : Int32), mem)) else (if x3 = (5 : Int32) then (if (4 : Int32) = 0 then none else (if x6 = ((x4 + (1 : Int32)) % (4 : Int32)) then (some ((1 : Int32), mem)) else (some ((0 : Int32), mem)))) else (some ((0 : Int32), mem)))
def dL_duty_60 (f : Nat) (x3 : Int32) (x4 : Int32) (x5 : Int32) (x6 : Int32) (mem : Mem) : Option (Int32 × Mem) := if x5 < (gI mem 13 0 2) then (some ((0 : Int32), mem)) else (if x3 = (1 : Int32) then (if (gI mem 13 0 3) = (3 : Int32) then (some ((0 : Int32), mem)) else (dL_duty_82 f x3 x4 x6 mem)) else (dL_duty_82 f x3 x4 x6 mem))
def dL_duty (f : Nat) (a1 : Int32) (a2 : Int32) (mem : Mem) : Option (Int32 × Mem) := ck ((6 : Int32) + ((6 : Int32) * a1)) 66 (ck ((9 : Int32) + ((6 : Int32) * a1)) 66 (if (gI mem 13 0 1) = 0 then none else (if (gI mem 13 0 1) = 0 then none else (if (4 : Int32) = 0 then none else (if (gI mem 13 0 ((6 : Int32) + ((6 : Int32) * a1)).toNatClampNeg) = (4 : Int32) then (if (gI mem 13 0 3) = (3 : Int32) then (if (a2 % (gI mem 13 0 1)) = 0 then (some ((1 : Int32), mem)) else (some ((0 : Int32), mem))) else (dL_duty_60 f (gI mem 13 0 ((6 : Int32) + ((6 : Int32) * a1)).toNatClampNeg) (gI mem 13 0 ((9 : Int32) + ((6 : Int32) * a1)).toNatClampNeg) (a2 % (gI mem 13 0 1)) ((a2 / (gI mem 13 0 1)) % (4 : Int32)) mem)) else (dL_duty_60 f (gI mem 13 0 ((6 : Int32) + ((6 : Int32) * a1)).toNatClampNeg) (gI mem 13 0 ((9 : Int32) + ((6 : Int32) * a1)).toNatClampNeg) (a2 % (gI mem 13 0 1)) ((a2 / (gI mem 13 0 1)) % (4 : Int32)) mem))))))
def dL_tires (f : Nat) (a1 : Int32) (mem : Mem) : Option (Int32 × Mem) := ck ((6 : Int32) + ((6 : Int32) * a1)) 66 (if (gI mem 13 0 ((6 : Int32) + ((6 : Int32) * a1)).toNatClampNeg) = (4 : Int32) then (some ((0 : Int32), mem)) else (if (gI mem 13 0 ((6 : Int32) + ((6 : Int32) * a1)).toNatClampNeg) = (3 : Int32) then (some ((2 : Int32), mem)) else (if (gI mem 13 0 ((6 : Int32) + ((6 : Int32) * a1)).toNatClampNeg) = (5 : Int32) then (some ((2 : Int32), mem)) else (some ((1 : Int32), mem)))))
def dL_reach_15 (f : Nat) (k6 : Int32 → Int32 → Mem → Option (Int32 × Mem)) : Nat → Int32 → Int32 → Int32 → Mem → Option (Int32 × Mem)
  | 0, _, _, _, _ => none
  | n + 1, x2, x3, x4, mem => if x4 < (gI mem 13 0 5) then (ck ((7 : Int32) + ((6 : Int32) * x4)) 66 (ck ((8 : Int32) + ((6 : Int32) * x4)) 66 (ck ((6 : Int32) + ((6 : Int32) * x4)) 66 (if (gI mem 13 0 ((6 : Int32) + ((6 : Int32) * x4)).toNatClampNeg) = (3 : Int32) then (if ((((1 : Int32) <<< ((gI mem 13 0 ((7 : Int32) + ((6 : Int32) * x4)).toNatClampNeg) &&& 31)) ||| ((1 : Int32) <<< ((gI mem 13 0 ((8 : Int32) + ((6 : Int32) * x4)).toNatClampNeg) &&& 31))) &&& x2) = 0 then (dL_reach_15 f k6 n x2 x3 (x4 + (1 : Int32)) mem) else (dL_reach_15 f k6 n (x2 ||| (((1 : Int32) <<< ((gI mem 13 0 ((7 : Int32) + ((6 : Int32) * x4)).toNatClampNeg) &&& 31)) ||| ((1 : Int32) <<< ((gI mem 13 0 ((8 : Int32) + ((6 : Int32) * x4)).toNatClampNeg) &&& 31)))) x3 (x4 + (1 : Int32)) mem)) else (dL_reach_15 f k6 n x2 x3 (x4 + (1 : Int32)) mem))))) else (k6 x2 (x3 + (1 : Int32)) mem)
def dL_reach_6 (f : Nat) : Nat → Int32 → Int32 → Mem → Option (Int32 × Mem)
  | 0, _, _, _ => none
  | n + 1, x2, x3, mem => if x3 < (10 : Int32) then (dL_reach_15 f (fun x2_ x3_ mem_ => dL_reach_6 f n x2_ x3_ mem_) f x2 x3 (0 : Int32) mem) else (some (x2, mem))
def dL_reach (f : Nat) (a1 : Int32) (mem : Mem) : Option (Int32 × Mem) := dL_reach_6 f f ((1 : Int32) <<< (a1 &&& 31)) (0 : Int32) mem
def dL_isSo_213 (f : Nat) (k16 : Int32 → Int32 → Int32 → Int32 → Int32 → Int32 → Mem → Option (Int32 × Mem)) (x2 : Int32) (x3 : Int32) (x4 : Int32) (x5 : Int32) (x6 : Int32) (x7 : Int32) (x8 : Int32) (mem : Mem) : Option (Int32 × Mem) := if x8 = 0 then (k16 x2 x3 x4 x5 x6 (x7 + (1 : Int32)) mem) else (k16 x2 x3 x4 x5 (x6 ||| ((1 : Int32) <<< (x7 &&& 31))) (x7 + (1 : Int32)) mem)
def dL_isSo_139 (f : Nat) (k16 : Int32 → Int32 → Int32 → Int32 → Int32 → Int32 → Mem → Option (Int32 × Mem)) (x2 : Int32) (x3 : Int32) (x4 : Int32) (x5 : Int32) (x6 : Int32) (x7 : Int32) (x8 : Int32) (x9 : Int32) (s0 : Int32) (s1 : Int32) (mem : Mem) : Option (Int32 × Mem) := if s0 = s1 then (bd (dW_of f x7 (8 : Int32) mem) (fun r1 m1 => bd (dL_tires f x7 m1) (fun r2 m2 => if r1 = r2 then (ck ((10 : Int32) + ((6 : Int32) * x7)) 66 (ck ((11 : Int32) + ((6 : Int32) * x7)) 66 (ck ((10 : Int32) + ((6 : Int32) * x7)) 66 (bd (dL_ones f (gI m2 13 0 ((10 : Int32) + ((6 : Int32) * x7)).toNatClampNeg) m2) (fun r3 m3 => if x9 = 0 then (dL_isSo_213 f k16 (x2 ||| (gI m2 13 0 ((10 : Int32) + ((6 : Int32) * x7)).toNatClampNeg)) (x3 + (gI m2 13 0 ((11 : Int32) + ((6 : Int32) * x7)).toNatClampNeg)) (x4 + r3) x5 x6 x7 x8 m3) else (dL_isSo_213 f k16 (x2 ||| (gI m2 13 0 ((10 : Int32) + ((6 : Int32) * x7)).toNatClampNeg)) (x3 + (gI m2 13 0 ((11 : Int32) + ((6 : Int32) * x7)).toNatClampNeg)) (x4 + r3) (x5 + (1 : Int32)) x6 x7 x8 m3)))))) else (some ((0 : Int32), m2))))) else (some ((0 : Int32), mem))
def dL_isSo_118 (f : Nat) (k16 : Int32 → Int32 → Int32 → Int32 → Int32 → Int32 → Mem → Option (Int32 × Mem)) (x2 : Int32) (x3 : Int32) (x4 : Int32) (x5 : Int32) (x6 : Int32) (x7 : Int32) (x8 : Int32) (x9 : Int32) (s0 : Int32) (s1 : Int32) (mem : Mem) : Option (Int32 × Mem) := if s0 = s1 then (bd (dW_of f x7 (7 : Int32) mem) (fun r1 m1 => if x9 = 0 then (dL_isSo_139 f k16 x2 x3 x4 x5 x6 x7 x8 x9 r1 (0 : Int32) m1) else (dL_isSo_139 f k16 x2 x3 x4 x5 x6 x7 x8 x9 r1 (1 : Int32) m1))) else (some ((0 : Int32), mem))
def dL_isSo_98 (f : Nat) (k16 : Int32 → Int32 → Int32 → Int32 → Int32 → Int32 → Mem → Option (Int32 × Mem)) (x2 : Int32) (x3 : Int32) (x4 : Int32) (x5 : Int32) (x6 : Int32) (x7 : Int32) (x8 : Int32) (s0 : Int32) (mem : Mem) : Option (Int32 × Mem) := bd (dW_of f x7 (6 : Int32) mem) (fun r1 m1 => if x8 = 0 then (dL_isSo_118 f k16 x2 x3 x4 x5 x6 x7 x8 s0 r1 (0 : Int32) m1) else (dL_isSo_118 f k16 x2 x3 x4 x5 x6 x7 x8 s0 r1 (1 : Int32) m1))
def dL_isSo_27 (f : Nat) (k16 : Int32 → Int32 → Int32 → Int32 → Int32 → Int32 → Mem → Option (Int32 × Mem)) : Nat → Int32 → Int32 → Int32 → Int32 → Int32 → Int32 → Int32 → Mem → Option (Int32 × Mem)
  | 0, _, _, _, _, _, _, _, _ => none
  | n + 1, x2, x3, x4, x5, x6, x7, x8, mem => if x8 < (6 : Int32) then (bd (dW_of f x7 x8 mem) (fun r1 m1 => ck (((6 : Int32) + ((6 : Int32) * x7)) + x8) 66 (if r1 = (gI m1 13 0 (((6 : Int32) + ((6 : Int32) * x7)) + x8).toNatClampNeg) then (dL_isSo_27 f k16 n x2 x3 x4 x5 x6 x7 (x8 + (1 : Int32)) m1) else (some ((0 : Int32), m1))))) else (bd (dL_duty f x7 (gI mem 13 0 0) mem) (fun r2 m2 => ck ((11 : Int32) + ((6 : Int32) * x7)) 66 (if (gI m2 13 0 ((11 : Int32) + ((6 : Int32) * x7)).toNatClampNeg) < (gI m2 13 0 4) then (dL_isSo_98 f k16 x2 x3 x4 x5 x6 x7 r2 (1 : Int32) m2) else (dL_isSo_98 f k16 x2 x3 x4 x5 x6 x7 r2 (0 : Int32) m2))))
def dL_isSo_269 (f : Nat) : Nat → Int32 → Int32 → Int32 → Int32 → Int32 → Int32 → Mem → Option (Int32 × Mem)
  | 0, _, _, _, _, _, _, _ => none
  | n + 1, x2, x3, x4, x5, x6, x7, mem => if x7 < (5 : Int32) then (bd (dW_now f x7 mem) (fun r1 m1 => ck x7 66 (if r1 = (gI m1 13 0 x7.toNatClampNeg) then (dL_isSo_269 f n x2 x3 x4 x5 x6 (x7 + (1 : Int32)) m1) else (some ((0 : Int32), m1))))) else (bd (dW_now f (5 : Int32) mem) (fun r2 m2 => if r2 = x2 then (bd (dW_now f (6 : Int32) m2) (fun r3 m3 => if r3 = x3 then (bd (dW_duty f (gI m3 13 0 0) m3) (fun r4 m4 => if r4 = x6 then (bd (dW_count f (0 : Int32) m4) (fun r5 m5 => if r5 = (gI m5 13 0 5) then (bd (dW_count f (2 : Int32) m5) (fun r6 m6 => if r6 = x4 then (bd (dW_count f (3 : Int32) m6) (fun r7 m7 => if r7 = x5 then (some ((1 : Int32), m7)) else (some ((0 : Int32), m7)))) else (some ((0 : Int32), m6)))) else (some ((0 : Int32), m5)))) else (some ((0 : Int32), m4)))) else (some ((0 : Int32), m3)))) else (some ((0 : Int32), m2))))
def dL_isSo_236 (f : Nat) : Nat → Int32 → Int32 → Int32 → Int32 → Int32 → Int32 → Mem → Option (Int32 × Mem)
  | 0, _, _, _, _, _, _, _ => none
  | n + 1, x2, x3, x4, x5, x6, x7, mem => if x7 < (10 : Int32) then (bd (dW_reach f x7 mem) (fun r1 m1 => bd (dL_reach f x7 m1) (fun r2 m2 => if r1 = r2 then (dL_isSo_236 f n x2 x3 x4 x5 x6 (x7 + (1 : Int32)) m2) else (some ((0 : Int32), m2))))) else (dL_isSo_269 f f x2 x3 x4 x5 x6 (0 : Int32) mem)
def dL_isSo_16 (f : Nat) : Nat → Int32 → Int32 → Int32 → Int32 → Int32 → Int32 → Mem → Option (Int32 × Mem)
  | 0, _, _, _, _, _, _, _ => none
  | n + 1, x2, x3, x4, x5, x6, x7, mem => if x7 < (gI mem 13 0 5) then (dL_isSo_27 f (fun x2_ x3_ x4_ x5_ x6_ x7_ mem_ => dL_isSo_16 f n x2_ x3_ x4_ x5_ x6_ x7_ mem_) f x2 x3 x4 x5 x6 x7 (0 : Int32) mem) else (dL_isSo_236 f f x2 x3 x4 x5 x6 (0 : Int32) mem)
def dL_isSo (f : Nat)  (mem : Mem) : Option (Int32 × Mem) := dL_isSo_16 f f (0 : Int32) (0 : Int32) (0 : Int32) (0 : Int32) (0 : Int32) (0 : Int32) mem
set_option maxHeartbeats 4000000 in
set_option maxRecDepth 100000 in
theorem cL_at {LL : Nat} {xs : Nat → Int32} {f : Nat} {a1 : Int32} {mem : Mem} {o : Int32} {mem' : Mem}  (h : dL_at LL xs f a1 mem = some (o, mem')) : RTx LL xs yL_at method_3_code 2 (Option.some Jvm.ClassFile.FieldType.int) (rmM 0 0) [aR 24 0, aI a1] mem (some (aI o)) mem' := by
  refine RTx.of (by decide +kernel) (Nat.le_of_ble_eq_true rfl) (fun p l e s m args below meth c k hL hx X hr => ?_)
  subst hL
  subst hx
  replace X : CX p s m args meth c k method_3_code 2 "WallShiftsLaw" := X
  unfold dL_at at h
  refine v_sub (lv' := [(0, _), (1, _)]) [0, 1] rfl ?_
  refine v_aload_n X (pc := 0) 0 rfl eL_at_0 rfl ?_
  refine v_slen X (pc := 1) eL_at_1 ?_
  refine v_iload_n X (pc := 2) 1 rfl eL_at_2 rfl ?_
  refine v_icmp_le X (pc := 3) (tgt := 12) h eL_at_3 (by decide) (fun h => ?_) (fun h => ?_)
  · refine v_aload_n X (pc := 6) 0 rfl eL_at_6 rfl ?_
    refine v_iload_n X (pc := 7) 1 rfl eL_at_7 rfl ?_
    refine v_sld X (pc := 8) h eL_at_8 (fun h => ?_)
    refine v_goto X (pc := 9) (tgt := 19) eL_at_9 (by decide) ?_
    exact v_iret X (pc := 19) h hr eL_at_19
  · refine v_bipush X (pc := 12) (v := (41 : Int32)) eL_at_12 (by decide) ?_
    refine v_iload_n X (pc := 14) 1 rfl eL_at_14 rfl ?_
    refine v_imul X (pc := 15) eL_at_15 ?_
    refine v_bipush X (pc := 16) (v := (13 : Int32)) eL_at_16 (by decide) ?_
    refine v_iadd X (pc := 18) eL_at_18 ?_
    exact v_iret X (pc := 19) h hr eL_at_19
set_option maxHeartbeats 4000000 in
set_option maxRecDepth 100000 in
theorem cL_mod {f : Nat} {a0 : Int32} {a1 : Int32} {mem : Mem} {o : Int32} {mem' : Mem}  (h : dL_mod f a0 a1 mem = some (o, mem')) : RT yL_mod method_2_code 3 (Option.some Jvm.ClassFile.FieldType.int) (rmM 0 0) [aI a0, aI a1] mem (some (aI o)) mem' := by
  refine RT.of (by decide +kernel) (Nat.le_of_ble_eq_true rfl) (fun p l e s m args below meth c k X hr => ?_)
  replace X : CX p s m args meth c k method_2_code 3 "WallShiftsLaw" := X
  unfold dL_mod at h
  refine v_sub (lv' := [(0, _), (1, _)]) [0, 1] rfl ?_
  refine v_iload_n X (pc := 0) 0 rfl eL_mod_0 rfl ?_
  refine v_iload_n X (pc := 1) 1 rfl eL_mod_1 rfl ?_
  refine v_irem X (pc := 2) h eL_mod_2 (fun h => ?_)
  refine v_istore_n X (pc := 3) (lv' := [(2, _), (0, _), (1, _)]) eL_mod_3 rfl (Nat.le_of_ble_eq_true rfl) rfl ?_
  refine v_iload_n X (pc := 4) 0 rfl eL_mod_4 rfl ?_
  refine v_if_ge X (pc := 5) (tgt := 14) h eL_mod_5 (by decide) (fun h => ?_) (fun h => ?_)
  · refine v_iload_n X (pc := 8) 0 rfl eL_mod_8 rfl ?_
    refine v_iload_n X (pc := 9) 2 rfl eL_mod_9 rfl ?_
    refine v_iadd X (pc := 10) eL_mod_10 ?_
    refine v_goto X (pc := 11) (tgt := 15) eL_mod_11 (by decide) ?_
    exact v_iret X (pc := 15) h hr eL_mod_15
  · refine v_iload_n X (pc := 14) 0 rfl eL_mod_14 rfl ?_
    exact v_iret X (pc := 15) h hr eL_mod_15
set_option maxHeartbeats 4000000 in
set_option maxRecDepth 100000 in
theorem cL_wall {f : Nat} {a2 : Int32} {a3 : Int32} {a4 : Int32} {mem : Mem} {o : Int32} {mem' : Mem}  (h : dL_wall f a2 a3 a4 mem = some (o, mem')) : RT yL_wall method_17_code 6 (Option.some Jvm.ClassFile.FieldType.boolean) (rmM 3 67) [aR 0 0, aR 13 0, aI a2, aI a3, aI a4] mem (some (aI o)) mem' := by
  refine RT.of (by decide +kernel) (Nat.le_of_ble_eq_true rfl) (fun p l e s m args below meth c k X hr => ?_)
  replace X : CX p s m args meth c k method_17_code 6 "WallShiftsLaw" := X
  unfold dL_wall at h
  refine v_sub (lv' := [(0, _), (1, _), (2, _), (3, _), (4, _)]) [0, 1, 2, 3, 4] rfl ?_
  refine v_aload_n X (pc := 0) 1 rfl eL_wall_0 rfl ?_
  refine v_iconst X (pc := 1) (v := (5 : Int32)) eL_wall_1 (by decide) ?_
  refine v_ialdK X (pc := 2) (n := 66) 5 (by decide) (by decide) (by decide) (by decide) rfl eL_wall_2 ?_
  refine v_istore X (pc := 3) (lv' := [(5, _), (0, _), (1, _), (2, _), (3, _), (4, _)]) eL_wall_3 (Nat.le_of_ble_eq_true rfl) rfl ?_
  refine v_aload_n X (pc := 5) 1 rfl eL_wall_5 rfl ?_
  refine v_iload_n X (pc := 6) 3 rfl eL_wall_6 rfl ?_
  refine v_iload_n X (pc := 7) 4 rfl eL_wall_7 rfl ?_
  refine v_iload X (pc := 8) 5 rfl eL_wall_8 ?_
  obtain ⟨r1, m1, hc1, h⟩ := bd_some h
  refine v_callV X (pc := 10) [_, _, _] [] ok_V_L_44 (cW_wall  hc1) rfl (Nat.le_of_ble_eq_true rfl) ⟨Nat.le_of_ble_eq_true rfl, Nat.le_of_ble_eq_true rfl⟩ ⟨Nat.zero_le _, Nat.zero_le _⟩ (by decide) (by decide) rfl rfl eL_wall_10 ?_
  refine v_iload X (pc := 13) 0 rfl eL_wall_13 ?_
  refine v_icmp_eq X (pc := 15) (tgt := 20) h eL_wall_15 (by decide) (fun h => ?_) (fun h => ?_)
  · refine v_aload_n X (pc := 20) 2 rfl eL_wall_20 rfl ?_
    refine v_bipush X (pc := 21) (v := (6 : Int32)) eL_wall_21 (by decide) ?_
    refine v_bipush X (pc := 23) (v := (6 : Int32)) eL_wall_23 (by decide) ?_
    refine v_iload X (pc := 25) 0 rfl eL_wall_25 ?_
    refine v_imul X (pc := 27) eL_wall_27 ?_
    refine v_iadd X (pc := 28) eL_wall_28 ?_
    refine v_iload_n X (pc := 29) 3 rfl eL_wall_29 rfl ?_
    refine v_iast X (pc := 30) h (by decide) (by decide) (fun _ => rfl) eL_wall_30 (fun h => ?_)
    refine v_aload_n X (pc := 31) 2 rfl eL_wall_31 rfl ?_
    refine v_bipush X (pc := 32) (v := (7 : Int32)) eL_wall_32 (by decide) ?_
    refine v_bipush X (pc := 34) (v := (6 : Int32)) eL_wall_34 (by decide) ?_
    refine v_iload X (pc := 36) 0 rfl eL_wall_36 ?_
    refine v_imul X (pc := 38) eL_wall_38 ?_
    refine v_iadd X (pc := 39) eL_wall_39 ?_
    refine v_iload_n X (pc := 40) 4 rfl eL_wall_40 rfl ?_
    refine v_iast X (pc := 41) h (by decide) (by decide) (fun _ => rfl) eL_wall_41 (fun h => ?_)
    refine v_aload_n X (pc := 42) 2 rfl eL_wall_42 rfl ?_
    refine v_bipush X (pc := 43) (v := (8 : Int32)) eL_wall_43 (by decide) ?_
    refine v_bipush X (pc := 45) (v := (6 : Int32)) eL_wall_45 (by decide) ?_
    refine v_iload X (pc := 47) 0 rfl eL_wall_47 ?_
    refine v_imul X (pc := 49) eL_wall_49 ?_
    refine v_iadd X (pc := 50) eL_wall_50 ?_
    refine v_iload X (pc := 51) 5 rfl eL_wall_51 ?_
    refine v_iast X (pc := 53) h (by decide) (by decide) (fun _ => rfl) eL_wall_53 (fun h => ?_)
    refine v_aload_n X (pc := 54) 2 rfl eL_wall_54 rfl ?_
    refine v_bipush X (pc := 55) (v := (9 : Int32)) eL_wall_55 (by decide) ?_
    refine v_bipush X (pc := 57) (v := (6 : Int32)) eL_wall_57 (by decide) ?_
    refine v_iload X (pc := 59) 0 rfl eL_wall_59 ?_
    refine v_imul X (pc := 61) eL_wall_61 ?_
    refine v_iadd X (pc := 62) eL_wall_62 ?_
    refine v_iconst X (pc := 63) (v := (0 : Int32)) eL_wall_63 (by decide) ?_
    refine v_iast X (pc := 64) h (by decide) (by decide) (fun _ => rfl) eL_wall_64 (fun h => ?_)
    refine v_aload_n X (pc := 65) 2 rfl eL_wall_65 rfl ?_
    refine v_bipush X (pc := 66) (v := (10 : Int32)) eL_wall_66 (by decide) ?_
    refine v_bipush X (pc := 68) (v := (6 : Int32)) eL_wall_68 (by decide) ?_
    refine v_iload X (pc := 70) 0 rfl eL_wall_70 ?_
    refine v_imul X (pc := 72) eL_wall_72 ?_
    refine v_iadd X (pc := 73) eL_wall_73 ?_
    refine v_iconst X (pc := 74) (v := (0 : Int32)) eL_wall_74 (by decide) ?_
    refine v_iast X (pc := 75) h (by decide) (by decide) (fun _ => rfl) eL_wall_75 (fun h => ?_)
    refine v_aload_n X (pc := 76) 2 rfl eL_wall_76 rfl ?_
    refine v_bipush X (pc := 77) (v := (11 : Int32)) eL_wall_77 (by decide) ?_
    refine v_bipush X (pc := 79) (v := (6 : Int32)) eL_wall_79 (by decide) ?_
    refine v_iload X (pc := 81) 0 rfl eL_wall_81 ?_
    refine v_imul X (pc := 83) eL_wall_83 ?_
    refine v_iadd X (pc := 84) eL_wall_84 ?_
    refine v_iconst X (pc := 85) (v := (0 : Int32)) eL_wall_85 (by decide) ?_
    refine v_iast X (pc := 86) h (by decide) (by decide) (fun _ => rfl) eL_wall_86 (fun h => ?_)
    refine v_aload_n X (pc := 87) 2 rfl eL_wall_87 rfl ?_
    refine v_iconst X (pc := 88) (v := (5 : Int32)) eL_wall_88 (by decide) ?_
    refine v_dup2 X (pc := 89) rfl rfl eL_wall_89 ?_
    refine v_ialdK X (pc := 90) (n := 66) 5 (by decide) (by decide) (by decide) (by decide) rfl eL_wall_90 ?_
    refine v_iconst X (pc := 91) (v := (1 : Int32)) eL_wall_91 (by decide) ?_
    refine v_iadd X (pc := 92) eL_wall_92 ?_
    refine v_iastK X (pc := 93) (n := 66) 5 (by decide) (by decide) (by decide) (by decide) (fun _ => rfl) eL_wall_93 ?_
    refine v_iconst X (pc := 94) (v := (1 : Int32)) eL_wall_94 (by decide) ?_
    exact v_zret X (pc := 95) h hr rfl eL_wall_95
  · refine v_iconst X (pc := 18) (v := (0 : Int32)) eL_wall_18 (by decide) ?_
    exact v_zret X (pc := 19) h hr rfl eL_wall_19
set_option maxHeartbeats 4000000 in
set_option maxRecDepth 100000 in
theorem cL_minute_20 {p : Program} {l : Launch} {e : Env} {s : State} {m : MethodId} {args : Array Value} {below : List Frame} {meth : Method} {c : Code} {k : KK} {f : Nat} {o : Unit} {mem' : Mem} (X : CX p s m args meth c k method_10_code 2 "WallShiftsLaw") (hr : meth.sig.returnType = (Option.none : Option Jvm.ClassFile.FieldType)) : ∀ (n : Nat) (x1 : Int32) (mem : Mem), dL_minute_20 f n x1 mem = some (o, mem') → V p l e (rmM 0 0) s m args below meth c 0 0 (MQ below (RQc k none mem') args s 0 0 (kA k)) k 2 mem 20 [(0, aR 13 0), (1, aI x1)] [] := by
  intro n
  induction n with
  | zero =>
    intro x1 mem  h
    exact nomatch (show (none : Option (Unit × Mem)) = some _ from h)
  | succ n ih =>
    intro x1 mem  h
    rw [dL_minute_20] at h
    refine v_iload_n X (pc := 20) 1 rfl eL_minute_20 rfl ?_
    refine v_aload_n X (pc := 21) 0 rfl eL_minute_21 rfl ?_
    refine v_iconst X (pc := 22) (v := (5 : Int32)) eL_minute_22 (by decide) ?_
    refine v_ialdK X (pc := 23) (n := 66) 5 (by decide) (by decide) (by decide) (by decide) rfl eL_minute_23 ?_
    refine v_icmp_ge X (pc := 24) (tgt := 64) h eL_minute_24 (by decide) (fun h => ?_) (fun h => ?_)
    · refine v_aload_n X (pc := 27) 0 rfl eL_minute_27 rfl ?_
      refine v_bipush X (pc := 28) (v := (9 : Int32)) eL_minute_28 (by decide) ?_
      refine v_bipush X (pc := 30) (v := (6 : Int32)) eL_minute_30 (by decide) ?_
      refine v_iload_n X (pc := 32) 1 rfl eL_minute_32 rfl ?_
      refine v_imul X (pc := 33) eL_minute_33 ?_
      refine v_iadd X (pc := 34) eL_minute_34 ?_
      refine v_iald X (pc := 35) h (by decide) (by decide) rfl eL_minute_35 (fun h => ?_)
      refine v_aload_n X (pc := 36) 0 rfl eL_minute_36 rfl ?_
      refine v_iconst X (pc := 37) (v := (0 : Int32)) eL_minute_37 (by decide) ?_
      refine v_ialdK X (pc := 38) (n := 66) 0 (by decide) (by decide) (by decide) (by decide) rfl eL_minute_38 ?_
      refine v_aload_n X (pc := 39) 0 rfl eL_minute_39 rfl ?_
      refine v_iconst X (pc := 40) (v := (1 : Int32)) eL_minute_40 (by decide) ?_
      refine v_ialdK X (pc := 41) (n := 66) 1 (by decide) (by decide) (by decide) (by decide) rfl eL_minute_41 ?_
      refine v_idiv X (pc := 42) h eL_minute_42 (fun h => ?_)
      refine v_iconst X (pc := 43) (v := (4 : Int32)) eL_minute_43 (by decide) ?_
      refine v_irem X (pc := 44) h eL_minute_44 (fun h => ?_)
      refine v_icmp_ne X (pc := 45) (tgt := 58) h eL_minute_45 (by decide) (fun h => ?_) (fun h => ?_)
      · refine v_aload_n X (pc := 48) 0 rfl eL_minute_48 rfl ?_
        refine v_bipush X (pc := 49) (v := (11 : Int32)) eL_minute_49 (by decide) ?_
        refine v_bipush X (pc := 51) (v := (6 : Int32)) eL_minute_51 (by decide) ?_
        refine v_iload_n X (pc := 53) 1 rfl eL_minute_53 rfl ?_
        refine v_imul X (pc := 54) eL_minute_54 ?_
        refine v_iadd X (pc := 55) eL_minute_55 ?_
        refine v_iconst X (pc := 56) (v := (0 : Int32)) eL_minute_56 (by decide) ?_
        refine v_iast X (pc := 57) h (by decide) (by decide) (fun _ => rfl) eL_minute_57 (fun h => ?_)
        refine v_iinc X (pc := 58) (v := (x1 + (1 : Int32))) (lv' := [(1, _), (0, _)]) 1 rfl (by rfl) eL_minute_58 (Nat.le_of_ble_eq_true rfl) rfl ?_
        refine v_goto X (pc := 61) (tgt := 20) eL_minute_61 (by decide) ?_
        exact v_sub [1, 0] rfl (ih _ _  h)
      · refine v_iinc X (pc := 58) (v := (x1 + (1 : Int32))) (lv' := [(1, _), (0, _)]) 1 rfl (by rfl) eL_minute_58 (Nat.le_of_ble_eq_true rfl) rfl ?_
        refine v_goto X (pc := 61) (tgt := 20) eL_minute_61 (by decide) ?_
        exact v_sub [1, 0] rfl (ih _ _  h)
    · exact v_vret X (pc := 64) h hr eL_minute_64
set_option maxHeartbeats 4000000 in
set_option maxRecDepth 100000 in
theorem cL_minute {f : Nat}  {mem : Mem} {o : Unit} {mem' : Mem}  (h : dL_minute f  mem = some (o, mem')) : RT yL_minute method_10_code 2 (Option.none : Option Jvm.ClassFile.FieldType) (rmM 0 0) [aR 13 0] mem none mem' := by
  refine RT.of (by decide +kernel) (Nat.le_of_ble_eq_true rfl) (fun p l e s m args below meth c k X hr => ?_)
  replace X : CX p s m args meth c k method_10_code 2 "WallShiftsLaw" := X
  unfold dL_minute at h
  refine v_sub (lv' := [(0, _)]) [0] rfl ?_
  refine v_aload_n X (pc := 0) 0 rfl eL_minute_0 rfl ?_
  refine v_iconst X (pc := 1) (v := (0 : Int32)) eL_minute_1 (by decide) ?_
  refine v_dup2 X (pc := 2) rfl rfl eL_minute_2 ?_
  refine v_ialdK X (pc := 3) (n := 66) 0 (by decide) (by decide) (by decide) (by decide) rfl eL_minute_3 ?_
  refine v_iconst X (pc := 4) (v := (1 : Int32)) eL_minute_4 (by decide) ?_
  refine v_iadd X (pc := 5) eL_minute_5 ?_
  refine v_iastK X (pc := 6) (n := 66) 0 (by decide) (by decide) (by decide) (by decide) (fun _ => rfl) eL_minute_6 ?_
  refine v_aload_n X (pc := 7) 0 rfl eL_minute_7 rfl ?_
  refine v_iconst X (pc := 8) (v := (0 : Int32)) eL_minute_8 (by decide) ?_
  refine v_ialdK X (pc := 9) (n := 66) 0 (by decide) (by decide) (by decide) (by decide) rfl eL_minute_9 ?_
  refine v_aload_n X (pc := 10) 0 rfl eL_minute_10 rfl ?_
  refine v_iconst X (pc := 11) (v := (1 : Int32)) eL_minute_11 (by decide) ?_
  refine v_ialdK X (pc := 12) (n := 66) 1 (by decide) (by decide) (by decide) (by decide) rfl eL_minute_12 ?_
  refine v_irem X (pc := 13) h eL_minute_13 (fun h => ?_)
  refine v_if_le X (pc := 14) (tgt := 18) h eL_minute_14 (by decide) (fun h => ?_) (fun h => ?_)
  · exact v_vret X (pc := 17) h hr eL_minute_17
  · refine v_iconst X (pc := 18) (v := (0 : Int32)) eL_minute_18 (by decide) ?_
    refine v_istore_n X (pc := 19) (lv' := [(1, _), (0, _)]) eL_minute_19 rfl (Nat.le_of_ble_eq_true rfl) rfl ?_
    exact v_sub [1, 0] rfl (cL_minute_20 X hr _ _ _  h)
set_option maxHeartbeats 4000000 in
set_option maxRecDepth 100000 in
theorem cL_lay_223 {p : Program} {l : Launch} {e : Env} {s : State} {m : MethodId} {args : Array Value} {below : List Frame} {meth : Method} {c : Code} {k : KK} {f : Nat} {o : Int32} {mem' : Mem} (X : CX p s m args meth c k method_18_code 10 "WallShiftsLaw") (hr : meth.sig.returnType = (Option.some Jvm.ClassFile.FieldType.boolean)) {k143 : Int32 → Int32 → Int32 → Mem → Option (Int32 × Mem)} (hk143 : ∀ (x3 : Int32) (x4 : Int32) (x5 : Int32) (mem : Mem), k143 x3 x4 x5 mem = some (o, mem') → V p l e (rmM 4 92) s m args below meth c 0 0 (MQ below (RQc k (some (aI o)) mem') args s 0 0 (kA k)) k 10 mem 143 [(0, aR 0 0), (1, aR 24 0), (2, aR 13 0), (3, aI x3), (4, aI x4), (5, aI x5)] []) : ∀ (x3 : Int32) (x4 : Int32) (x5 : Int32) (x6 : Int32) (s2 : Int32) (s3 : Int32) (s4 : Int32) (s5 : Int32) (mem : Mem), dL_lay_223 (kL k) (kx k) f k143 x3 x4 x5 x6 s2 s3 s4 s5 mem = some (o, mem') → V p l e (rmM 4 92) s m args below meth c 0 0 (MQ below (RQc k (some (aI o)) mem') args s 0 0 (kA k)) k 10 mem 223 [(0, aR 0 0), (1, aR 24 0), (2, aR 13 0), (3, aI x3), (4, aI x4), (5, aI x5), (6, aI x6)] [aI s5, aI s4, aI s3, aI s2, aR 13 0, aR 0 0] := by
  intro x3 x4 x5 x6 s2 s3 s4 s5 mem  h
  unfold dL_lay_223 at h
  obtain ⟨r1, m1, hc1, h⟩ := bd_some h
  refine v_callS X (pc := 223) [_, _] [_, _, _, _] ok_S_L_52 (cL_mod  hc1) rfl (Nat.le_of_ble_eq_true rfl) ⟨Nat.le_of_ble_eq_true rfl, Nat.le_of_ble_eq_true rfl⟩ ⟨Nat.zero_le _, Nat.zero_le _⟩ eL_lay_223 ?_
  obtain ⟨r2, m2, hc2, h⟩ := bd_some h
  refine v_callS X (pc := 226) [_, _, _, _, _] [] ok_S_L_59 (cL_wall  hc2) rfl (Nat.le_of_ble_eq_true rfl) ⟨Nat.le_of_ble_eq_true rfl, Nat.le_of_ble_eq_true rfl⟩ ⟨Nat.zero_le _, Nat.zero_le _⟩ eL_lay_226 ?_
  refine v_if_ne X (pc := 229) (tgt := 234) h eL_lay_229 (by decide) (fun h => ?_) (fun h => ?_)
  · refine v_iconst X (pc := 232) (v := (0 : Int32)) eL_lay_232 (by decide) ?_
    exact v_zret X (pc := 233) h hr rfl eL_lay_233
  · refine v_iload X (pc := 234) 6 rfl eL_lay_234 ?_
    refine v_bipush X (pc := 236) (v := (10 : Int32)) eL_lay_236 (by decide) ?_
    refine v_ishr X (pc := 238) eL_lay_238 ?_
    refine v_iconst X (pc := 239) (v := (3 : Int32)) eL_lay_239 (by decide) ?_
    refine v_iand X (pc := 240) eL_lay_240 ?_
    refine v_istore X (pc := 241) (lv' := [(7, _), (0, _), (1, _), (2, _), (3, _), (4, _), (5, _), (6, _)]) eL_lay_241 (Nat.le_of_ble_eq_true rfl) rfl ?_
    refine v_aload_n X (pc := 243) 1 rfl eL_lay_243 rfl ?_
    refine v_iload X (pc := 244) 6 rfl eL_lay_244 ?_
    refine v_iconst X (pc := 246) (v := (3 : Int32)) eL_lay_246 (by decide) ?_
    refine v_iload X (pc := 247) 0 rfl eL_lay_247 ?_
    obtain ⟨r3, m3, hc3, h⟩ := bd_some h
    refine v_callV X (pc := 249) [_, _, _] [] ok_V_L_62 (cW_set  hc3) rfl (Nat.le_of_ble_eq_true rfl) ⟨Nat.le_of_ble_eq_true rfl, Nat.le_of_ble_eq_true rfl⟩ ⟨Nat.zero_le _, Nat.zero_le _⟩ (by decide) (by decide) rfl rfl eL_lay_249 ?_
    refine v_if_eq X (pc := 252) (tgt := 257) h eL_lay_252 (by decide) (fun h => ?_) (fun h => ?_)
    · refine v_aload_n X (pc := 257) 3 rfl eL_lay_257 rfl ?_
      refine v_bipush X (pc := 258) (v := (9 : Int32)) eL_lay_258 (by decide) ?_
      refine v_bipush X (pc := 260) (v := (6 : Int32)) eL_lay_260 (by decide) ?_
      refine v_iload X (pc := 262) 6 rfl eL_lay_262 ?_
      refine v_imul X (pc := 264) eL_lay_264 ?_
      refine v_iadd X (pc := 265) eL_lay_265 ?_
      refine v_iload X (pc := 266) 0 rfl eL_lay_266 ?_
      refine v_iast X (pc := 268) h (by decide) (by decide) (fun _ => rfl) eL_lay_268 (fun h => ?_)
      refine v_iload X (pc := 269) 7 rfl eL_lay_269 ?_
      refine v_bipush X (pc := 271) (v := (12 : Int32)) eL_lay_271 (by decide) ?_
      refine v_ishr X (pc := 273) eL_lay_273 ?_
      refine v_iconst X (pc := 274) (v := (3 : Int32)) eL_lay_274 (by decide) ?_
      refine v_iand X (pc := 275) eL_lay_275 ?_
      refine v_if_le X (pc := 276) (tgt := 282) h eL_lay_276 (by decide) (fun h => ?_) (fun h => ?_)
      · refine v_goto X (pc := 279) (tgt := 356) eL_lay_279 (by decide) ?_
        refine v_iinc X (pc := 356) (v := (x5 + (1 : Int32))) (lv' := [(5, _), (7, _), (0, _), (1, _), (2, _), (3, _), (4, _), (6, _)]) 6 rfl (by rfl) eL_lay_356 (Nat.le_of_ble_eq_true rfl) rfl ?_
        refine v_goto X (pc := 359) (tgt := 143) eL_lay_359 (by decide) ?_
        exact v_sub [2, 3, 4, 5, 6, 0] rfl (hk143 _ _ _ _  h)
      · refine v_iload X (pc := 282) 7 rfl eL_lay_282 ?_
        refine v_bipush X (pc := 284) (v := (31 : Int32)) eL_lay_284 (by decide) ?_
        refine v_imul X (pc := 286) eL_lay_286 ?_
        refine v_ldc X (pc := 287) qw_359 eL_lay_287 ?_
        obtain ⟨r4, m4, hc4, h⟩ := bd_some h
        refine v_callS X (pc := 289) [_, _] [] ok_S_L_52 (cL_mod  hc4) rfl (Nat.le_of_ble_eq_true rfl) ⟨Nat.le_of_ble_eq_true rfl, Nat.le_of_ble_eq_true rfl⟩ ⟨Nat.zero_le _, Nat.zero_le _⟩ eL_lay_289 ?_
        refine v_istore X (pc := 292) (lv' := [(8, _), (7, _), (0, _), (1, _), (2, _), (3, _), (4, _), (5, _), (6, _)]) eL_lay_292 (Nat.le_of_ble_eq_true rfl) rfl ?_
        refine v_iload X (pc := 294) 8 rfl eL_lay_294 ?_
        refine v_bipush X (pc := 296) (v := (8 : Int32)) eL_lay_296 (by decide) ?_
        refine v_ishr X (pc := 298) eL_lay_298 ?_
        refine v_bipush X (pc := 299) (v := (9 : Int32)) eL_lay_299 (by decide) ?_
        obtain ⟨r5, m5, hc5, h⟩ := bd_some h
        refine v_callS X (pc := 301) [_, _] [] ok_S_L_52 (cL_mod  hc5) rfl (Nat.le_of_ble_eq_true rfl) ⟨Nat.le_of_ble_eq_true rfl, Nat.le_of_ble_eq_true rfl⟩ ⟨Nat.zero_le _, Nat.zero_le _⟩ eL_lay_301 ?_
        refine v_istore X (pc := 304) (lv' := [(9, _), (8, _), (7, _), (0, _), (1, _), (2, _), (3, _), (4, _), (5, _), (6, _)]) eL_lay_304 (Nat.le_of_ble_eq_true rfl) rfl ?_
        refine v_aload_n X (pc := 306) 3 rfl eL_lay_306 rfl ?_
        refine v_iload X (pc := 307) 8 rfl eL_lay_307 ?_
        refine v_iconst X (pc := 309) (v := (4 : Int32)) eL_lay_309 (by decide) ?_
        refine v_iload X (pc := 310) 1 rfl eL_lay_310 ?_
        obtain ⟨r6, m6, hc6, h⟩ := bd_some h
        refine v_callV X (pc := 312) [_, _, _] [] ok_V_L_62 (cW_set  hc6) rfl (Nat.le_of_ble_eq_true rfl) ⟨Nat.le_of_ble_eq_true rfl, Nat.le_of_ble_eq_true rfl⟩ ⟨Nat.zero_le _, Nat.zero_le _⟩ (by decide) (by decide) rfl rfl eL_lay_312 ?_
        refine v_if_ne X (pc := 315) (tgt := 330) h eL_lay_315 (by decide) (fun h => ?_) (fun h => ?_)
        · refine v_aload_n X (pc := 318) 3 rfl eL_lay_318 rfl ?_
          refine v_iload X (pc := 319) 8 rfl eL_lay_319 ?_
          refine v_iconst X (pc := 321) (v := (5 : Int32)) eL_lay_321 (by decide) ?_
          refine v_iload X (pc := 322) 0 rfl eL_lay_322 ?_
          obtain ⟨r7, m7, hc7, h⟩ := bd_some h
          refine v_callV X (pc := 324) [_, _, _] [] ok_V_L_62 (cW_set  hc7) rfl (Nat.le_of_ble_eq_true rfl) ⟨Nat.le_of_ble_eq_true rfl, Nat.le_of_ble_eq_true rfl⟩ ⟨Nat.zero_le _, Nat.zero_le _⟩ (by decide) (by decide) rfl rfl eL_lay_324 ?_
          refine v_if_eq X (pc := 327) (tgt := 332) h eL_lay_327 (by decide) (fun h => ?_) (fun h => ?_)
          · refine v_aload_n X (pc := 332) 5 rfl eL_lay_332 rfl ?_
            refine v_bipush X (pc := 333) (v := (10 : Int32)) eL_lay_333 (by decide) ?_
            refine v_bipush X (pc := 335) (v := (6 : Int32)) eL_lay_335 (by decide) ?_
            refine v_iload X (pc := 337) 8 rfl eL_lay_337 ?_
            refine v_imul X (pc := 339) eL_lay_339 ?_
            refine v_iadd X (pc := 340) eL_lay_340 ?_
            refine v_iload X (pc := 341) 1 rfl eL_lay_341 ?_
            refine v_iast X (pc := 343) h (by decide) (by decide) (fun _ => rfl) eL_lay_343 (fun h => ?_)
            refine v_aload_n X (pc := 344) 5 rfl eL_lay_344 rfl ?_
            refine v_bipush X (pc := 345) (v := (11 : Int32)) eL_lay_345 (by decide) ?_
            refine v_bipush X (pc := 347) (v := (6 : Int32)) eL_lay_347 (by decide) ?_
            refine v_iload X (pc := 349) 8 rfl eL_lay_349 ?_
            refine v_imul X (pc := 351) eL_lay_351 ?_
            refine v_iadd X (pc := 352) eL_lay_352 ?_
            refine v_iload X (pc := 353) 0 rfl eL_lay_353 ?_
            refine v_iast X (pc := 355) h (by decide) (by decide) (fun _ => rfl) eL_lay_355 (fun h => ?_)
            refine v_iinc X (pc := 356) (v := (x5 + (1 : Int32))) (lv' := [(5, _), (9, _), (8, _), (7, _), (0, _), (1, _), (2, _), (3, _), (4, _), (6, _)]) 8 rfl (by rfl) eL_lay_356 (Nat.le_of_ble_eq_true rfl) rfl ?_
            refine v_goto X (pc := 359) (tgt := 143) eL_lay_359 (by decide) ?_
            exact v_sub [4, 5, 6, 7, 8, 0] rfl (hk143 _ _ _ _  h)
          · refine v_iconst X (pc := 330) (v := (0 : Int32)) eL_lay_330 (by decide) ?_
            exact v_zret X (pc := 331) h hr rfl eL_lay_331
        · refine v_iconst X (pc := 330) (v := (0 : Int32)) eL_lay_330 (by decide) ?_
          exact v_zret X (pc := 331) h hr rfl eL_lay_331
    · refine v_iconst X (pc := 255) (v := (0 : Int32)) eL_lay_255 (by decide) ?_
      exact v_zret X (pc := 256) h hr rfl eL_lay_256
set_option maxHeartbeats 4000000 in
set_option maxRecDepth 100000 in
theorem cL_lay_199 {p : Program} {l : Launch} {e : Env} {s : State} {m : MethodId} {args : Array Value} {below : List Frame} {meth : Method} {c : Code} {k : KK} {f : Nat} {o : Int32} {mem' : Mem} (X : CX p s m args meth c k method_18_code 10 "WallShiftsLaw") (hr : meth.sig.returnType = (Option.some Jvm.ClassFile.FieldType.boolean)) {k143 : Int32 → Int32 → Int32 → Mem → Option (Int32 × Mem)} (hk143 : ∀ (x3 : Int32) (x4 : Int32) (x5 : Int32) (mem : Mem), k143 x3 x4 x5 mem = some (o, mem') → V p l e (rmM 4 92) s m args below meth c 0 0 (MQ below (RQc k (some (aI o)) mem') args s 0 0 (kA k)) k 10 mem 143 [(0, aR 0 0), (1, aR 24 0), (2, aR 13 0), (3, aI x3), (4, aI x4), (5, aI x5)] []) : ∀ (x3 : Int32) (x4 : Int32) (x5 : Int32) (x6 : Int32) (s2 : Int32) (s3 : Int32) (s4 : Int32) (mem : Mem), dL_lay_199 (kL k) (kx k) f k143 x3 x4 x5 x6 s2 s3 s4 mem = some (o, mem') → V p l e (rmM 4 92) s m args below meth c 0 0 (MQ below (RQc k (some (aI o)) mem') args s 0 0 (kA k)) k 10 mem 199 [(0, aR 0 0), (1, aR 24 0), (2, aR 13 0), (3, aI x3), (4, aI x4), (5, aI x5), (6, aI x6)] [aI s4, aI s3, aI s2, aR 13 0, aR 0 0] := by
  intro x3 x4 x5 x6 s2 s3 s4 mem  h
  unfold dL_lay_199 at h
  obtain ⟨r1, m1, hc1, h⟩ := bd_some h
  refine v_callS X (pc := 199) [_, _] [_, _, _] ok_S_L_52 (cL_mod  hc1) rfl (Nat.le_of_ble_eq_true rfl) ⟨Nat.le_of_ble_eq_true rfl, Nat.le_of_ble_eq_true rfl⟩ ⟨Nat.zero_le _, Nat.zero_le _⟩ eL_lay_199 ?_
  refine v_iload X (pc := 202) 6 rfl eL_lay_202 ?_
  refine v_bipush X (pc := 204) (v := (6 : Int32)) eL_lay_204 (by decide) ?_
  refine v_ishr X (pc := 206) eL_lay_206 ?_
  refine v_iload X (pc := 207) 6 rfl eL_lay_207 ?_
  refine v_bipush X (pc := 209) (v := (14 : Int32)) eL_lay_209 (by decide) ?_
  refine v_ishr X (pc := 211) eL_lay_211 ?_
  refine v_iconst X (pc := 212) (v := (1 : Int32)) eL_lay_212 (by decide) ?_
  refine v_iand X (pc := 213) eL_lay_213 ?_
  refine v_if_ne X (pc := 214) (tgt := 221) h eL_lay_214 (by decide) (fun h => ?_) (fun h => ?_)
  · refine v_iconst X (pc := 217) (v := (3 : Int32)) eL_lay_217 (by decide) ?_
    refine v_goto X (pc := 218) (tgt := 223) eL_lay_218 (by decide) ?_
    exact v_sub [0, 1, 2, 3, 4, 5, 6] rfl (cL_lay_223 X hr hk143 _ _ _ _ _ _ _ _ _  h)
  · refine v_bipush X (pc := 221) (v := (10 : Int32)) eL_lay_221 (by decide) ?_
    exact v_sub [0, 1, 2, 3, 4, 5, 6] rfl (cL_lay_223 X hr hk143 _ _ _ _ _ _ _ _ _  h)
set_option maxHeartbeats 4000000 in
set_option maxRecDepth 100000 in
theorem cL_lay_376 {p : Program} {l : Launch} {e : Env} {s : State} {m : MethodId} {args : Array Value} {below : List Frame} {meth : Method} {c : Code} {k : KK} {f : Nat} {o : Int32} {mem' : Mem} (X : CX p s m args meth c k method_18_code 10 "WallShiftsLaw") (hr : meth.sig.returnType = (Option.some Jvm.ClassFile.FieldType.boolean)) : ∀ (n : Nat) (x5 : Int32) (x6 : Int32) (mem : Mem), dL_lay_376 (kL k) (kx k) f n x5 x6 mem = some (o, mem') → V p l e (rmM 4 92) s m args below meth c 0 0 (MQ below (RQc k (some (aI o)) mem') args s 0 0 (kA k)) k 10 mem 376 [(0, aR 0 0), (2, aR 13 0), (5, aI x5), (6, aI x6)] [] := by
  intro n
  induction n with
  | zero =>
    intro x5 x6 mem  h
    exact nomatch (show (none : Option (Int32 × Mem)) = some _ from h)
  | succ n ih =>
    intro x5 x6 mem  h
    rw [dL_lay_376] at h
    refine v_iload X (pc := 376) 3 rfl eL_lay_376 ?_
    refine v_iload X (pc := 378) 2 rfl eL_lay_378 ?_
    refine v_icmp_ge X (pc := 380) (tgt := 393) h eL_lay_380 (by decide) (fun h => ?_) (fun h => ?_)
    · refine v_aload_n X (pc := 383) 1 rfl eL_lay_383 rfl ?_
      obtain ⟨r1, m1, hc1, h⟩ := bd_some h
      refine v_callS X (pc := 384) [_] [] ok_S_L_34 (cL_minute  hc1) rfl (Nat.le_of_ble_eq_true rfl) ⟨Nat.le_of_ble_eq_true rfl, Nat.le_of_ble_eq_true rfl⟩ ⟨Nat.zero_le _, Nat.zero_le _⟩ eL_lay_384 ?_
      refine v_iinc X (pc := 387) (v := (x6 + (1 : Int32))) (lv' := [(6, _), (0, _), (2, _), (5, _)]) 3 rfl (by rfl) eL_lay_387 (Nat.le_of_ble_eq_true rfl) rfl ?_
      refine v_goto X (pc := 390) (tgt := 376) eL_lay_390 (by decide) ?_
      exact v_sub [1, 2, 3, 0] rfl (ih _ _ _  h)
    · refine v_iload X (pc := 393) 2 rfl eL_lay_393 ?_
      refine v_if_eq X (pc := 395) (tgt := 409) h eL_lay_395 (by decide) (fun h => ?_) (fun h => ?_)
      · refine v_iconst X (pc := 409) (v := (1 : Int32)) eL_lay_409 (by decide) ?_
        refine v_goto X (pc := 410) (tgt := 414) eL_lay_410 (by decide) ?_
        exact v_zret X (pc := 414) h hr rfl eL_lay_414
      · refine v_aload_n X (pc := 398) 0 rfl eL_lay_398 rfl ?_
        refine v_iload X (pc := 399) 2 rfl eL_lay_399 ?_
        obtain ⟨r2, m2, hc2, h⟩ := bd_some h
        refine v_callV X (pc := 401) [_] [] ok_V_L_66 (cW_pass  hc2) rfl (Nat.le_of_ble_eq_true rfl) ⟨Nat.le_of_ble_eq_true rfl, Nat.le_of_ble_eq_true rfl⟩ ⟨Nat.zero_le _, Nat.zero_le _⟩ (by decide) (by decide) rfl rfl eL_lay_401 ?_
        refine v_iload X (pc := 404) 2 rfl eL_lay_404 ?_
        refine v_icmp_ne X (pc := 406) (tgt := 413) h eL_lay_406 (by decide) (fun h => ?_) (fun h => ?_)
        · refine v_iconst X (pc := 409) (v := (1 : Int32)) eL_lay_409 (by decide) ?_
          refine v_goto X (pc := 410) (tgt := 414) eL_lay_410 (by decide) ?_
          exact v_zret X (pc := 414) h hr rfl eL_lay_414
        · refine v_iconst X (pc := 413) (v := (0 : Int32)) eL_lay_413 (by decide) ?_
          exact v_zret X (pc := 414) h hr rfl eL_lay_414
set_option maxHeartbeats 4000000 in
set_option maxRecDepth 100000 in
theorem cL_lay_143 {p : Program} {l : Launch} {e : Env} {s : State} {m : MethodId} {args : Array Value} {below : List Frame} {meth : Method} {c : Code} {k : KK} {f : Nat} {o : Int32} {mem' : Mem} (X : CX p s m args meth c k method_18_code 10 "WallShiftsLaw") (hr : meth.sig.returnType = (Option.some Jvm.ClassFile.FieldType.boolean)) : ∀ (n : Nat) (x3 : Int32) (x4 : Int32) (x5 : Int32) (mem : Mem), dL_lay_143 (kL k) (kx k) f n x3 x4 x5 mem = some (o, mem') → V p l e (rmM 4 92) s m args below meth c 0 0 (MQ below (RQc k (some (aI o)) mem') args s 0 0 (kA k)) k 10 mem 143 [(0, aR 0 0), (1, aR 24 0), (2, aR 13 0), (3, aI x3), (4, aI x4), (5, aI x5)] [] := by
  intro n
  induction n with
  | zero =>
    intro x3 x4 x5 mem  h
    exact nomatch (show (none : Option (Int32 × Mem)) = some _ from h)
  | succ n ih =>
    intro x3 x4 x5 mem  h
    rw [dL_lay_143] at h
    refine v_iload X (pc := 143) 5 rfl eL_lay_143 ?_
    refine v_iload X (pc := 145) 4 rfl eL_lay_145 ?_
    refine v_icmp_ge X (pc := 147) (tgt := 362) h eL_lay_147 (by decide) (fun h => ?_) (fun h => ?_)
    · refine v_aload_n X (pc := 150) 1 rfl eL_lay_150 rfl ?_
      refine v_iconst X (pc := 151) (v := (1 : Int32)) eL_lay_151 (by decide) ?_
      refine v_iload X (pc := 152) 5 rfl eL_lay_152 ?_
      refine v_iconst X (pc := 154) (v := (5 : Int32)) eL_lay_154 (by decide) ?_
      refine v_irem X (pc := 155) h eL_lay_155 (fun h => ?_)
      refine v_iadd X (pc := 156) eL_lay_156 ?_
      obtain ⟨r1, m1, hc1, h⟩ := bd_some h
      refine v_callSx X (pc := 157) [_, _] [] ok_S_L_50 (cL_at  hc1) rfl (Nat.le_of_ble_eq_true rfl) ⟨Nat.le_of_ble_eq_true rfl, Nat.le_of_ble_eq_true rfl⟩ ⟨Nat.zero_le _, Nat.zero_le _⟩ eL_lay_157 ?_
      refine v_bipush X (pc := 160) (v := (15 : Int32)) eL_lay_160 (by decide) ?_
      refine v_iload X (pc := 162) 5 rfl eL_lay_162 ?_
      refine v_iconst X (pc := 164) (v := (5 : Int32)) eL_lay_164 (by decide) ?_
      refine v_idiv X (pc := 165) h eL_lay_165 (fun h => ?_)
      refine v_imul X (pc := 166) eL_lay_166 ?_
      refine v_ishr X (pc := 167) eL_lay_167 ?_
      refine v_istore X (pc := 168) (lv' := [(6, _), (0, _), (1, _), (2, _), (3, _), (4, _), (5, _)]) eL_lay_168 (Nat.le_of_ble_eq_true rfl) rfl ?_
      refine v_aload_n X (pc := 170) 1 rfl eL_lay_170 rfl ?_
      refine v_aload_n X (pc := 171) 3 rfl eL_lay_171 rfl ?_
      refine v_iload X (pc := 172) 0 rfl eL_lay_172 ?_
      refine v_bipush X (pc := 174) (v := (6 : Int32)) eL_lay_174 (by decide) ?_
      obtain ⟨r2, m2, hc2, h⟩ := bd_some h
      refine v_callS X (pc := 176) [_, _] [_, _] ok_S_L_52 (cL_mod  hc2) rfl (Nat.le_of_ble_eq_true rfl) ⟨Nat.le_of_ble_eq_true rfl, Nat.le_of_ble_eq_true rfl⟩ ⟨Nat.zero_le _, Nat.zero_le _⟩ eL_lay_176 ?_
      refine v_iload X (pc := 179) 0 rfl eL_lay_179 ?_
      refine v_iconst X (pc := 181) (v := (3 : Int32)) eL_lay_181 (by decide) ?_
      refine v_ishr X (pc := 182) eL_lay_182 ?_
      refine v_iload X (pc := 183) 0 rfl eL_lay_183 ?_
      refine v_bipush X (pc := 185) (v := (14 : Int32)) eL_lay_185 (by decide) ?_
      refine v_ishr X (pc := 187) eL_lay_187 ?_
      refine v_iconst X (pc := 188) (v := (1 : Int32)) eL_lay_188 (by decide) ?_
      refine v_iand X (pc := 189) eL_lay_189 ?_
      refine v_if_ne X (pc := 190) (tgt := 197) h eL_lay_190 (by decide) (fun h => ?_) (fun h => ?_)
      · refine v_iconst X (pc := 193) (v := (3 : Int32)) eL_lay_193 (by decide) ?_
        refine v_goto X (pc := 194) (tgt := 199) eL_lay_194 (by decide) ?_
        exact v_sub [1, 2, 3, 4, 5, 6, 0] rfl (cL_lay_199 X hr ih _ _ _ _ _ _ _ _  h)
      · refine v_bipush X (pc := 197) (v := (10 : Int32)) eL_lay_197 (by decide) ?_
        exact v_sub [1, 2, 3, 4, 5, 6, 0] rfl (cL_lay_199 X hr ih _ _ _ _ _ _ _ _  h)
    · refine v_iload_n X (pc := 362) 3 rfl eL_lay_362 rfl ?_
      refine v_bipush X (pc := 363) (v := (20 : Int32)) eL_lay_363 (by decide) ?_
      refine v_ishr X (pc := 365) eL_lay_365 ?_
      refine v_bipush X (pc := 366) (v := (40 : Int32)) eL_lay_366 (by decide) ?_
      obtain ⟨r3, m3, hc3, h⟩ := bd_some h
      refine v_callS X (pc := 368) [_, _] [] ok_S_L_52 (cL_mod  hc3) rfl (Nat.le_of_ble_eq_true rfl) ⟨Nat.le_of_ble_eq_true rfl, Nat.le_of_ble_eq_true rfl⟩ ⟨Nat.zero_le _, Nat.zero_le _⟩ eL_lay_368 ?_
      refine v_istore X (pc := 371) (lv' := [(5, _), (0, _), (1, _), (2, _), (3, _), (4, _)]) eL_lay_371 (Nat.le_of_ble_eq_true rfl) rfl ?_
      refine v_iconst X (pc := 373) (v := (0 : Int32)) eL_lay_373 (by decide) ?_
      refine v_istore X (pc := 374) (lv' := [(6, _), (5, _), (0, _), (1, _), (2, _), (3, _), (4, _)]) eL_lay_374 (Nat.le_of_ble_eq_true rfl) rfl ?_
      exact v_sub [2, 4, 1, 0] rfl (cL_lay_376 X hr _ _ _ _  h)
set_option maxHeartbeats 4000000 in
set_option maxRecDepth 100000 in
theorem cL_lay_50 {p : Program} {l : Launch} {e : Env} {s : State} {m : MethodId} {args : Array Value} {below : List Frame} {meth : Method} {c : Code} {k : KK} {f : Nat} {o : Int32} {mem' : Mem} (X : CX p s m args meth c k method_18_code 10 "WallShiftsLaw") (hr : meth.sig.returnType = (Option.some Jvm.ClassFile.FieldType.boolean)) : ∀ (x3 : Int32) (s1 : Int32) (s2 : Int32) (s3 : Int32) (mem : Mem), dL_lay_50 (kL k) (kx k) f x3 s1 s2 s3 mem = some (o, mem') → V p l e (rmM 4 92) s m args below meth c 0 0 (MQ below (RQc k (some (aI o)) mem') args s 0 0 (kA k)) k 10 mem 50 [(0, aR 0 0), (1, aR 24 0), (2, aR 13 0), (3, aI x3)] [aI s3, aI s2, aI s1, aR 13 0] := by
  intro x3 s1 s2 s3 mem  h
  unfold dL_lay_50 at h
  obtain ⟨r1, m1, hc1, h⟩ := bd_some h
  refine v_callS X (pc := 50) [_, _] [_, _] ok_S_L_52 (cL_mod  hc1) rfl (Nat.le_of_ble_eq_true rfl) ⟨Nat.le_of_ble_eq_true rfl, Nat.le_of_ble_eq_true rfl⟩ ⟨Nat.zero_le _, Nat.zero_le _⟩ eL_lay_50 ?_
  refine v_iast X (pc := 53) h (by decide) (by decide) (fun _ => rfl) eL_lay_53 (fun h => ?_)
  refine v_aload_n X (pc := 54) 2 rfl eL_lay_54 rfl ?_
  refine v_iconst X (pc := 55) (v := (3 : Int32)) eL_lay_55 (by decide) ?_
  refine v_iload_n X (pc := 56) 3 rfl eL_lay_56 rfl ?_
  refine v_bipush X (pc := 57) (v := (9 : Int32)) eL_lay_57 (by decide) ?_
  refine v_ishr X (pc := 59) eL_lay_59 ?_
  refine v_iconst X (pc := 60) (v := (3 : Int32)) eL_lay_60 (by decide) ?_
  refine v_iand X (pc := 61) eL_lay_61 ?_
  refine v_iastK X (pc := 62) (n := 66) 3 (by decide) (by decide) (by decide) (by decide) (fun _ => rfl) eL_lay_62 ?_
  refine v_aload_n X (pc := 63) 2 rfl eL_lay_63 rfl ?_
  refine v_iconst X (pc := 64) (v := (4 : Int32)) eL_lay_64 (by decide) ?_
  refine v_iconst X (pc := 65) (v := (1 : Int32)) eL_lay_65 (by decide) ?_
  refine v_iload_n X (pc := 66) 3 rfl eL_lay_66 rfl ?_
  refine v_bipush X (pc := 67) (v := (11 : Int32)) eL_lay_67 (by decide) ?_
  refine v_ishr X (pc := 69) eL_lay_69 ?_
  refine v_bipush X (pc := 70) (v := (20 : Int32)) eL_lay_70 (by decide) ?_
  obtain ⟨r2, m2, hc2, h⟩ := bd_some h
  refine v_callS X (pc := 72) [_, _] [_, _, _] ok_S_L_52 (cL_mod  hc2) rfl (Nat.le_of_ble_eq_true rfl) ⟨Nat.le_of_ble_eq_true rfl, Nat.le_of_ble_eq_true rfl⟩ ⟨Nat.zero_le _, Nat.zero_le _⟩ eL_lay_72 ?_
  refine v_iadd X (pc := 75) eL_lay_75 ?_
  refine v_iastK X (pc := 76) (n := 66) 4 (by decide) (by decide) (by decide) (by decide) (fun _ => rfl) eL_lay_76 ?_
  refine v_aload_n X (pc := 77) 0 rfl eL_lay_77 rfl ?_
  refine v_iconst X (pc := 78) (v := (0 : Int32)) eL_lay_78 (by decide) ?_
  refine v_aload_n X (pc := 79) 2 rfl eL_lay_79 rfl ?_
  refine v_iconst X (pc := 80) (v := (1 : Int32)) eL_lay_80 (by decide) ?_
  refine v_ialdK X (pc := 81) (n := 66) 1 (by decide) (by decide) (by decide) (by decide) rfl eL_lay_81 ?_
  obtain ⟨r3, m3, hc3, h⟩ := bd_some h
  refine v_callV X (pc := 82) [_, _] [] ok_V_L_56 (cW_rota  hc3) rfl (Nat.le_of_ble_eq_true rfl) ⟨Nat.le_of_ble_eq_true rfl, Nat.le_of_ble_eq_true rfl⟩ ⟨Nat.zero_le _, Nat.zero_le _⟩ (by decide) (by decide) rfl rfl eL_lay_82 ?_
  refine v_bipush X (pc := 85) (v := (15 : Int32)) eL_lay_85 (by decide) ?_
  refine v_icmp_ne X (pc := 87) (tgt := 125) h eL_lay_87 (by decide) (fun h => ?_) (fun h => ?_)
  · refine v_aload_n X (pc := 90) 0 rfl eL_lay_90 rfl ?_
    refine v_iconst X (pc := 91) (v := (1 : Int32)) eL_lay_91 (by decide) ?_
    refine v_aload_n X (pc := 92) 2 rfl eL_lay_92 rfl ?_
    refine v_iconst X (pc := 93) (v := (2 : Int32)) eL_lay_93 (by decide) ?_
    refine v_ialdK X (pc := 94) (n := 66) 2 (by decide) (by decide) (by decide) (by decide) rfl eL_lay_94 ?_
    obtain ⟨r4, m4, hc4, h⟩ := bd_some h
    refine v_callV X (pc := 95) [_, _] [] ok_V_L_56 (cW_rota  hc4) rfl (Nat.le_of_ble_eq_true rfl) ⟨Nat.le_of_ble_eq_true rfl, Nat.le_of_ble_eq_true rfl⟩ ⟨Nat.zero_le _, Nat.zero_le _⟩ (by decide) (by decide) rfl rfl eL_lay_95 ?_
    refine v_iconst X (pc := 98) (v := (2 : Int32)) eL_lay_98 (by decide) ?_
    refine v_icmp_ne X (pc := 99) (tgt := 125) h eL_lay_99 (by decide) (fun h => ?_) (fun h => ?_)
    · refine v_aload_n X (pc := 102) 0 rfl eL_lay_102 rfl ?_
      refine v_iconst X (pc := 103) (v := (2 : Int32)) eL_lay_103 (by decide) ?_
      refine v_aload_n X (pc := 104) 2 rfl eL_lay_104 rfl ?_
      refine v_iconst X (pc := 105) (v := (3 : Int32)) eL_lay_105 (by decide) ?_
      refine v_ialdK X (pc := 106) (n := 66) 3 (by decide) (by decide) (by decide) (by decide) rfl eL_lay_106 ?_
      obtain ⟨r5, m5, hc5, h⟩ := bd_some h
      refine v_callV X (pc := 107) [_, _] [] ok_V_L_56 (cW_rota  hc5) rfl (Nat.le_of_ble_eq_true rfl) ⟨Nat.le_of_ble_eq_true rfl, Nat.le_of_ble_eq_true rfl⟩ ⟨Nat.zero_le _, Nat.zero_le _⟩ (by decide) (by decide) rfl rfl eL_lay_107 ?_
      refine v_if_ne X (pc := 110) (tgt := 125) h eL_lay_110 (by decide) (fun h => ?_) (fun h => ?_)
      · refine v_aload_n X (pc := 113) 0 rfl eL_lay_113 rfl ?_
        refine v_iconst X (pc := 114) (v := (3 : Int32)) eL_lay_114 (by decide) ?_
        refine v_aload_n X (pc := 115) 2 rfl eL_lay_115 rfl ?_
        refine v_iconst X (pc := 116) (v := (4 : Int32)) eL_lay_116 (by decide) ?_
        refine v_ialdK X (pc := 117) (n := 66) 4 (by decide) (by decide) (by decide) (by decide) rfl eL_lay_117 ?_
        obtain ⟨r6, m6, hc6, h⟩ := bd_some h
        refine v_callV X (pc := 118) [_, _] [] ok_V_L_56 (cW_rota  hc6) rfl (Nat.le_of_ble_eq_true rfl) ⟨Nat.le_of_ble_eq_true rfl, Nat.le_of_ble_eq_true rfl⟩ ⟨Nat.zero_le _, Nat.zero_le _⟩ (by decide) (by decide) rfl rfl eL_lay_118 ?_
        refine v_iconst X (pc := 121) (v := (5 : Int32)) eL_lay_121 (by decide) ?_
        refine v_icmp_eq X (pc := 122) (tgt := 127) h eL_lay_122 (by decide) (fun h => ?_) (fun h => ?_)
        · refine v_iconst X (pc := 127) (v := (1 : Int32)) eL_lay_127 (by decide) ?_
          refine v_iload_n X (pc := 128) 3 rfl eL_lay_128 rfl ?_
          refine v_bipush X (pc := 129) (v := (16 : Int32)) eL_lay_129 (by decide) ?_
          refine v_ishr X (pc := 131) eL_lay_131 ?_
          refine v_bipush X (pc := 132) (v := (10 : Int32)) eL_lay_132 (by decide) ?_
          obtain ⟨r7, m7, hc7, h⟩ := bd_some h
          refine v_callS X (pc := 134) [_, _] [_] ok_S_L_52 (cL_mod  hc7) rfl (Nat.le_of_ble_eq_true rfl) ⟨Nat.le_of_ble_eq_true rfl, Nat.le_of_ble_eq_true rfl⟩ ⟨Nat.zero_le _, Nat.zero_le _⟩ eL_lay_134 ?_
          refine v_iadd X (pc := 137) eL_lay_137 ?_
          refine v_istore X (pc := 138) (lv' := [(4, _), (0, _), (1, _), (2, _), (3, _)]) eL_lay_138 (Nat.le_of_ble_eq_true rfl) rfl ?_
          refine v_iconst X (pc := 140) (v := (0 : Int32)) eL_lay_140 (by decide) ?_
          refine v_istore X (pc := 141) (lv' := [(5, _), (4, _), (0, _), (1, _), (2, _), (3, _)]) eL_lay_141 (Nat.le_of_ble_eq_true rfl) rfl ?_
          exact v_sub [2, 3, 4, 5, 1, 0] rfl (cL_lay_143 X hr _ _ _ _ _  h)
        · refine v_iconst X (pc := 125) (v := (0 : Int32)) eL_lay_125 (by decide) ?_
          exact v_zret X (pc := 126) h hr rfl eL_lay_126
      · refine v_iconst X (pc := 125) (v := (0 : Int32)) eL_lay_125 (by decide) ?_
        exact v_zret X (pc := 126) h hr rfl eL_lay_126
    · refine v_iconst X (pc := 125) (v := (0 : Int32)) eL_lay_125 (by decide) ?_
      exact v_zret X (pc := 126) h hr rfl eL_lay_126
  · refine v_iconst X (pc := 125) (v := (0 : Int32)) eL_lay_125 (by decide) ?_
    exact v_zret X (pc := 126) h hr rfl eL_lay_126
set_option maxHeartbeats 4000000 in
set_option maxRecDepth 100000 in
theorem cL_lay_25 {p : Program} {l : Launch} {e : Env} {s : State} {m : MethodId} {args : Array Value} {below : List Frame} {meth : Method} {c : Code} {k : KK} {f : Nat} {o : Int32} {mem' : Mem} (X : CX p s m args meth c k method_18_code 10 "WallShiftsLaw") (hr : meth.sig.returnType = (Option.some Jvm.ClassFile.FieldType.boolean)) : ∀ (x3 : Int32) (s1 : Int32) (s2 : Int32) (s3 : Int32) (s4 : Int32) (mem : Mem), dL_lay_25 (kL k) (kx k) f x3 s1 s2 s3 s4 mem = some (o, mem') → V p l e (rmM 4 92) s m args below meth c 0 0 (MQ below (RQc k (some (aI o)) mem') args s 0 0 (kA k)) k 10 mem 25 [(0, aR 0 0), (1, aR 24 0), (2, aR 13 0), (3, aI x3)] [aI s4, aI s3, aI s2, aI s1, aR 13 0] := by
  intro x3 s1 s2 s3 s4 mem  h
  unfold dL_lay_25 at h
  obtain ⟨r1, m1, hc1, h⟩ := bd_some h
  refine v_callS X (pc := 25) [_, _] [_, _, _] ok_S_L_52 (cL_mod  hc1) rfl (Nat.le_of_ble_eq_true rfl) ⟨Nat.le_of_ble_eq_true rfl, Nat.le_of_ble_eq_true rfl⟩ ⟨Nat.zero_le _, Nat.zero_le _⟩ eL_lay_25 ?_
  refine v_iadd X (pc := 28) eL_lay_28 ?_
  refine v_iast X (pc := 29) h (by decide) (by decide) (fun _ => rfl) eL_lay_29 (fun h => ?_)
  refine v_aload_n X (pc := 30) 2 rfl eL_lay_30 rfl ?_
  refine v_iconst X (pc := 31) (v := (2 : Int32)) eL_lay_31 (by decide) ?_
  refine v_iload_n X (pc := 32) 3 rfl eL_lay_32 rfl ?_
  refine v_iconst X (pc := 33) (v := (5 : Int32)) eL_lay_33 (by decide) ?_
  refine v_ishr X (pc := 34) eL_lay_34 ?_
  refine v_iload_n X (pc := 35) 3 rfl eL_lay_35 rfl ?_
  refine v_bipush X (pc := 36) (v := (7 : Int32)) eL_lay_36 (by decide) ?_
  refine v_ishr X (pc := 38) eL_lay_38 ?_
  refine v_iconst X (pc := 39) (v := (3 : Int32)) eL_lay_39 (by decide) ?_
  refine v_iand X (pc := 40) eL_lay_40 ?_
  refine v_if_ne X (pc := 41) (tgt := 49) h eL_lay_41 (by decide) (fun h => ?_) (fun h => ?_)
  · refine v_bipush X (pc := 44) (v := (12 : Int32)) eL_lay_44 (by decide) ?_
    refine v_goto X (pc := 46) (tgt := 50) eL_lay_46 (by decide) ?_
    exact v_sub [0, 1, 2, 3] rfl (cL_lay_50 X hr _ _ _ _ _  h)
  · refine v_iconst X (pc := 49) (v := (3 : Int32)) eL_lay_49 (by decide) ?_
    exact v_sub [0, 1, 2, 3] rfl (cL_lay_50 X hr _ _ _ _ _  h)
set_option maxHeartbeats 4000000 in
set_option maxRecDepth 100000 in
theorem cL_lay {LL : Nat} {xs : Nat → Int32} {f : Nat}  {mem : Mem} {o : Int32} {mem' : Mem}  (h : dL_lay LL xs f  mem = some (o, mem')) : RTx LL xs yL_lay method_18_code 10 (Option.some Jvm.ClassFile.FieldType.boolean) (rmM 4 92) [aR 0 0, aR 24 0, aR 13 0] mem (some (aI o)) mem' := by
  refine RTx.of (by decide +kernel) (Nat.le_of_ble_eq_true rfl) (fun p l e s m args below meth c k hL hx X hr => ?_)
  subst hL
  subst hx
  replace X : CX p s m args meth c k method_18_code 10 "WallShiftsLaw" := X
  unfold dL_lay at h
  refine v_sub (lv' := [(0, _), (1, _), (2, _)]) [0, 1, 2] rfl ?_
  refine v_aload_n X (pc := 0) 1 rfl eL_lay_0 rfl ?_
  refine v_iconst X (pc := 1) (v := (0 : Int32)) eL_lay_1 (by decide) ?_
  obtain ⟨r1, m1, hc1, h⟩ := bd_some h
  refine v_callSx X (pc := 2) [_, _] [] ok_S_L_50 (cL_at  hc1) rfl (Nat.le_of_ble_eq_true rfl) ⟨Nat.le_of_ble_eq_true rfl, Nat.le_of_ble_eq_true rfl⟩ ⟨Nat.zero_le _, Nat.zero_le _⟩ eL_lay_2 ?_
  refine v_istore_n X (pc := 5) (lv' := [(3, _), (0, _), (1, _), (2, _)]) eL_lay_5 rfl (Nat.le_of_ble_eq_true rfl) rfl ?_
  refine v_aload_n X (pc := 6) 3 rfl eL_lay_6 rfl ?_
  refine v_iconst X (pc := 7) (v := (1 : Int32)) eL_lay_7 (by decide) ?_
  refine v_iconst X (pc := 8) (v := (1 : Int32)) eL_lay_8 (by decide) ?_
  refine v_iload_n X (pc := 9) 0 rfl eL_lay_9 rfl ?_
  refine v_iload_n X (pc := 10) 0 rfl eL_lay_10 rfl ?_
  refine v_iconst X (pc := 11) (v := (3 : Int32)) eL_lay_11 (by decide) ?_
  refine v_ishr X (pc := 12) eL_lay_12 ?_
  refine v_iconst X (pc := 13) (v := (3 : Int32)) eL_lay_13 (by decide) ?_
  refine v_iand X (pc := 14) eL_lay_14 ?_
  refine v_if_ne X (pc := 15) (tgt := 23) h eL_lay_15 (by decide) (fun h => ?_) (fun h => ?_)
  · refine v_bipush X (pc := 18) (v := (60 : Int32)) eL_lay_18 (by decide) ?_
    refine v_goto X (pc := 20) (tgt := 25) eL_lay_20 (by decide) ?_
    exact v_sub [1, 2, 3, 0] rfl (cL_lay_25 X hr _ _ _ _ _ _  h)
  · refine v_bipush X (pc := 23) (v := (9 : Int32)) eL_lay_23 (by decide) ?_
    exact v_sub [1, 2, 3, 0] rfl (cL_lay_25 X hr _ _ _ _ _ _  h)
set_option maxHeartbeats 4000000 in
set_option maxRecDepth 100000 in
theorem cL_isUnheard_9 {p : Program} {l : Launch} {e : Env} {s : State} {m : MethodId} {args : Array Value} {below : List Frame} {meth : Method} {c : Code} {k : KK} {f : Nat} {o : Int32} {mem' : Mem} (X : CX p s m args meth c k method_20_code 5 "WallShiftsLaw") (hr : meth.sig.returnType = (Option.some Jvm.ClassFile.FieldType.boolean)) : ∀ (n : Nat) (x2 : Int32) (x3 : Int32) (x4 : Int32) (mem : Mem), dL_isUnheard_9 f n x2 x3 x4 mem = some (o, mem') → V p l e (rmM 4 98) s m args below meth c 0 0 (MQ below (RQc k (some (aI o)) mem') args s 0 0 (kA k)) k 5 mem 9 [(0, aR 0 0), (2, aI x2), (3, aI x3), (4, aI x4)] [] := by
  intro n
  induction n with
  | zero =>
    intro x2 x3 x4 mem  h
    exact nomatch (show (none : Option (Int32 × Mem)) = some _ from h)
  | succ n ih =>
    intro x2 x3 x4 mem  h
    rw [dL_isUnheard_9] at h
    refine v_iload X (pc := 9) 3 rfl eL_isUnheard_9 ?_
    refine v_aload_n X (pc := 11) 0 rfl eL_isUnheard_11 rfl ?_
    refine v_iconst X (pc := 12) (v := (0 : Int32)) eL_isUnheard_12 (by decide) ?_
    obtain ⟨r1, m1, hc1, h⟩ := bd_some h
    refine v_callV X (pc := 13) [_] [_] ok_V_L_79 (cW_count  hc1) rfl (Nat.le_of_ble_eq_true rfl) ⟨Nat.le_of_ble_eq_true rfl, Nat.le_of_ble_eq_true rfl⟩ ⟨Nat.zero_le _, Nat.zero_le _⟩ (by decide) (by decide) rfl rfl eL_isUnheard_13 ?_
    refine v_icmp_ge X (pc := 16) (tgt := 73) h eL_isUnheard_16 (by decide) (fun h => ?_) (fun h => ?_)
    · refine v_iload_n X (pc := 19) 1 rfl eL_isUnheard_19 rfl ?_
      refine v_iload X (pc := 20) 3 rfl eL_isUnheard_20 ?_
      refine v_ishr X (pc := 22) eL_isUnheard_22 ?_
      refine v_iconst X (pc := 23) (v := (1 : Int32)) eL_isUnheard_23 (by decide) ?_
      refine v_iand X (pc := 24) eL_isUnheard_24 ?_
      refine v_iconst X (pc := 25) (v := (1 : Int32)) eL_isUnheard_25 (by decide) ?_
      refine v_icmp_ne X (pc := 26) (tgt := 67) h eL_isUnheard_26 (by decide) (fun h => ?_) (fun h => ?_)
      · refine v_aload_n X (pc := 29) 0 rfl eL_isUnheard_29 rfl ?_
        refine v_iload X (pc := 30) 3 rfl eL_isUnheard_30 ?_
        refine v_bipush X (pc := 32) (v := (6 : Int32)) eL_isUnheard_32 (by decide) ?_
        obtain ⟨r2, m2, hc2, h⟩ := bd_some h
        refine v_callV X (pc := 34) [_, _] [] ok_V_L_69 (cW_of  hc2) rfl (Nat.le_of_ble_eq_true rfl) ⟨Nat.le_of_ble_eq_true rfl, Nat.le_of_ble_eq_true rfl⟩ ⟨Nat.zero_le _, Nat.zero_le _⟩ (by decide) (by decide) rfl rfl eL_isUnheard_34 ?_
        refine v_iconst X (pc := 37) (v := (1 : Int32)) eL_isUnheard_37 (by decide) ?_
        refine v_icmp_ne X (pc := 38) (tgt := 67) h eL_isUnheard_38 (by decide) (fun h => ?_) (fun h => ?_)
        · refine v_iconst X (pc := 41) (v := (1 : Int32)) eL_isUnheard_41 (by decide) ?_
          refine v_aload_n X (pc := 42) 0 rfl eL_isUnheard_42 rfl ?_
          refine v_iload X (pc := 43) 3 rfl eL_isUnheard_43 ?_
          refine v_iconst X (pc := 45) (v := (1 : Int32)) eL_isUnheard_45 (by decide) ?_
          obtain ⟨r3, m3, hc3, h⟩ := bd_some h
          refine v_callV X (pc := 46) [_, _] [_] ok_V_L_69 (cW_of  hc3) rfl (Nat.le_of_ble_eq_true rfl) ⟨Nat.le_of_ble_eq_true rfl, Nat.le_of_ble_eq_true rfl⟩ ⟨Nat.zero_le _, Nat.zero_le _⟩ (by decide) (by decide) rfl rfl eL_isUnheard_46 ?_
          refine v_ishl X (pc := 49) eL_isUnheard_49 ?_
          refine v_iconst X (pc := 50) (v := (1 : Int32)) eL_isUnheard_50 (by decide) ?_
          refine v_aload_n X (pc := 51) 0 rfl eL_isUnheard_51 rfl ?_
          refine v_iload X (pc := 52) 3 rfl eL_isUnheard_52 ?_
          refine v_iconst X (pc := 54) (v := (2 : Int32)) eL_isUnheard_54 (by decide) ?_
          obtain ⟨r4, m4, hc4, h⟩ := bd_some h
          refine v_callV X (pc := 55) [_, _] [_, _] ok_V_L_69 (cW_of  hc4) rfl (Nat.le_of_ble_eq_true rfl) ⟨Nat.le_of_ble_eq_true rfl, Nat.le_of_ble_eq_true rfl⟩ ⟨Nat.zero_le _, Nat.zero_le _⟩ (by decide) (by decide) rfl rfl eL_isUnheard_55 ?_
          refine v_ishl X (pc := 58) eL_isUnheard_58 ?_
          refine v_ior X (pc := 59) eL_isUnheard_59 ?_
          refine v_iload_n X (pc := 60) 2 rfl eL_isUnheard_60 rfl ?_
          refine v_iand X (pc := 61) eL_isUnheard_61 ?_
          refine v_if_eq X (pc := 62) (tgt := 67) h eL_isUnheard_62 (by decide) (fun h => ?_) (fun h => ?_)
          · refine v_iinc X (pc := 67) (v := (x4 + (1 : Int32))) (lv' := [(4, _), (0, _), (2, _), (3, _)]) 3 rfl (by rfl) eL_isUnheard_67 (Nat.le_of_ble_eq_true rfl) rfl ?_
            refine v_goto X (pc := 70) (tgt := 9) eL_isUnheard_70 (by decide) ?_
            exact v_sub [1, 2, 3, 0] rfl (ih _ _ _ _  h)
          · refine v_iconst X (pc := 65) (v := (0 : Int32)) eL_isUnheard_65 (by decide) ?_
            exact v_zret X (pc := 66) h hr rfl eL_isUnheard_66
        · refine v_iinc X (pc := 67) (v := (x4 + (1 : Int32))) (lv' := [(4, _), (0, _), (2, _), (3, _)]) 3 rfl (by rfl) eL_isUnheard_67 (Nat.le_of_ble_eq_true rfl) rfl ?_
          refine v_goto X (pc := 70) (tgt := 9) eL_isUnheard_70 (by decide) ?_
          exact v_sub [1, 2, 3, 0] rfl (ih _ _ _ _  h)
      · refine v_iinc X (pc := 67) (v := (x4 + (1 : Int32))) (lv' := [(4, _), (0, _), (2, _), (3, _)]) 3 rfl (by rfl) eL_isUnheard_67 (Nat.le_of_ble_eq_true rfl) rfl ?_
        refine v_goto X (pc := 70) (tgt := 9) eL_isUnheard_70 (by decide) ?_
        exact v_sub [1, 2, 3, 0] rfl (ih _ _ _ _  h)
    · refine v_iconst X (pc := 73) (v := (1 : Int32)) eL_isUnheard_73 (by decide) ?_
      exact v_zret X (pc := 74) h hr rfl eL_isUnheard_74
set_option maxHeartbeats 4000000 in
set_option maxRecDepth 100000 in
theorem cL_isUnheard {f : Nat} {a1 : Int32} {a2 : Int32} {mem : Mem} {o : Int32} {mem' : Mem}  (h : dL_isUnheard f a1 a2 mem = some (o, mem')) : RT yL_isUnheard method_20_code 5 (Option.some Jvm.ClassFile.FieldType.boolean) (rmM 4 98) [aR 0 0, aI a1, aI a2] mem (some (aI o)) mem' := by
  refine RT.of (by decide +kernel) (Nat.le_of_ble_eq_true rfl) (fun p l e s m args below meth c k X hr => ?_)
  replace X : CX p s m args meth c k method_20_code 5 "WallShiftsLaw" := X
  unfold dL_isUnheard at h
  refine v_sub (lv' := [(0, _), (1, _), (2, _)]) [0, 1, 2] rfl ?_
  refine v_aload_n X (pc := 0) 0 rfl eL_isUnheard_0 rfl ?_
  refine v_iload_n X (pc := 1) 1 rfl eL_isUnheard_1 rfl ?_
  obtain ⟨r1, m1, hc1, h⟩ := bd_some h
  refine v_callV X (pc := 2) [_] [] ok_V_L_72 (cW_reach  hc1) rfl (Nat.le_of_ble_eq_true rfl) ⟨Nat.le_of_ble_eq_true rfl, Nat.le_of_ble_eq_true rfl⟩ ⟨Nat.zero_le _, Nat.zero_le _⟩ (by decide) (by decide) rfl rfl eL_isUnheard_2 ?_
  refine v_istore_n X (pc := 5) (lv' := [(3, _), (0, _), (1, _), (2, _)]) eL_isUnheard_5 rfl (Nat.le_of_ble_eq_true rfl) rfl ?_
  refine v_iconst X (pc := 6) (v := (0 : Int32)) eL_isUnheard_6 (by decide) ?_
  refine v_istore X (pc := 7) (lv' := [(4, _), (3, _), (0, _), (1, _), (2, _)]) eL_isUnheard_7 (Nat.le_of_ble_eq_true rfl) rfl ?_
  exact v_sub [2, 4, 1, 0] rfl (cL_isUnheard_9 X hr _ _ _ _ _  h)
set_option maxHeartbeats 4000000 in
set_option maxRecDepth 100000 in
theorem cL_ones_4 {p : Program} {l : Launch} {e : Env} {s : State} {m : MethodId} {args : Array Value} {below : List Frame} {meth : Method} {c : Code} {k : KK} {f : Nat} {o : Int32} {mem' : Mem} (X : CX p s m args meth c k method_11_code 3 "WallShiftsLaw") (hr : meth.sig.returnType = (Option.some Jvm.ClassFile.FieldType.int)) : ∀ (n : Nat) (x0 : Int32) (x1 : Int32) (x2 : Int32) (mem : Mem), dL_ones_4 f n x0 x1 x2 mem = some (o, mem') → V p l e (rmM 0 0) s m args below meth c 0 0 (MQ below (RQc k (some (aI o)) mem') args s 0 0 (kA k)) k 3 mem 4 [(0, aI x0), (1, aI x1), (2, aI x2)] [] := by
  intro n
  induction n with
  | zero =>
    intro x0 x1 x2 mem  h
    exact nomatch (show (none : Option (Int32 × Mem)) = some _ from h)
  | succ n ih =>
    intro x0 x1 x2 mem  h
    rw [dL_ones_4] at h
    refine v_iload_n X (pc := 4) 2 rfl eL_ones_4 rfl ?_
    refine v_bipush X (pc := 5) (v := (16 : Int32)) eL_ones_5 (by decide) ?_
    refine v_icmp_ge X (pc := 7) (tgt := 24) h eL_ones_7 (by decide) (fun h => ?_) (fun h => ?_)
    · refine v_iload_n X (pc := 10) 1 rfl eL_ones_10 rfl ?_
      refine v_iload_n X (pc := 11) 0 rfl eL_ones_11 rfl ?_
      refine v_iload_n X (pc := 12) 2 rfl eL_ones_12 rfl ?_
      refine v_ishr X (pc := 13) eL_ones_13 ?_
      refine v_iconst X (pc := 14) (v := (1 : Int32)) eL_ones_14 (by decide) ?_
      refine v_iand X (pc := 15) eL_ones_15 ?_
      refine v_iadd X (pc := 16) eL_ones_16 ?_
      refine v_istore_n X (pc := 17) (lv' := [(1, _), (0, _), (2, _)]) eL_ones_17 rfl (Nat.le_of_ble_eq_true rfl) rfl ?_
      refine v_iinc X (pc := 18) (v := (x2 + (1 : Int32))) (lv' := [(2, _), (1, _), (0, _)]) 2 rfl (by rfl) eL_ones_18 (Nat.le_of_ble_eq_true rfl) rfl ?_
      refine v_goto X (pc := 21) (tgt := 4) eL_ones_21 (by decide) ?_
      exact v_sub [2, 1, 0] rfl (ih _ _ _ _  h)
    · refine v_iload_n X (pc := 24) 1 rfl eL_ones_24 rfl ?_
      exact v_iret X (pc := 25) h hr eL_ones_25
set_option maxHeartbeats 4000000 in
set_option maxRecDepth 100000 in
theorem cL_ones {f : Nat} {a0 : Int32} {mem : Mem} {o : Int32} {mem' : Mem}  (h : dL_ones f a0 mem = some (o, mem')) : RT yL_ones method_11_code 3 (Option.some Jvm.ClassFile.FieldType.int) (rmM 0 0) [aI a0] mem (some (aI o)) mem' := by
  refine RT.of (by decide +kernel) (Nat.le_of_ble_eq_true rfl) (fun p l e s m args below meth c k X hr => ?_)
  replace X : CX p s m args meth c k method_11_code 3 "WallShiftsLaw" := X
  unfold dL_ones at h
  refine v_sub (lv' := [(0, _)]) [0] rfl ?_
  refine v_iconst X (pc := 0) (v := (0 : Int32)) eL_ones_0 (by decide) ?_
  refine v_istore_n X (pc := 1) (lv' := [(1, _), (0, _)]) eL_ones_1 rfl (Nat.le_of_ble_eq_true rfl) rfl ?_
  refine v_iconst X (pc := 2) (v := (0 : Int32)) eL_ones_2 (by decide) ?_
  refine v_istore_n X (pc := 3) (lv' := [(2, _), (1, _), (0, _)]) eL_ones_3 rfl (Nat.le_of_ble_eq_true rfl) rfl ?_
  exact v_sub [2, 1, 0] rfl (cL_ones_4 X hr _ _ _ _ _  h)
set_option maxHeartbeats 4000000 in
set_option maxRecDepth 100000 in
theorem cL_duty_82 {p : Program} {l : Launch} {e : Env} {s : State} {m : MethodId} {args : Array Value} {below : List Frame} {meth : Method} {c : Code} {k : KK} {f : Nat} {o : Int32} {mem' : Mem} (X : CX p s m args meth c k method_4_code 7 "WallShiftsLaw") (hr : meth.sig.returnType = (Option.some Jvm.ClassFile.FieldType.boolean)) : ∀ (x3 : Int32) (x4 : Int32) (x6 : Int32) (mem : Mem), dL_duty_82 f x3 x4 x6 mem = some (o, mem') → V p l e (rmM 0 0) s m args below meth c 0 0 (MQ below (RQc k (some (aI o)) mem') args s 0 0 (kA k)) k 7 mem 82 [(3, aI x3), (4, aI x4), (6, aI x6)] [] := by
  intro x3 x4 x6 mem  h
  unfold dL_duty_82 at h
  refine v_iload X (pc := 82) 2 rfl eL_duty_82 ?_
  refine v_iload X (pc := 84) 1 rfl eL_duty_84 ?_
  refine v_icmp_eq X (pc := 86) (tgt := 105) h eL_duty_86 (by decide) (fun h => ?_) (fun h => ?_)
  · refine v_iconst X (pc := 105) (v := (1 : Int32)) eL_duty_105 (by decide) ?_
    refine v_goto X (pc := 106) (tgt := 110) eL_duty_106 (by decide) ?_
    exact v_zret X (pc := 110) h hr rfl eL_duty_110
  · refine v_iload_n X (pc := 89) 0 rfl eL_duty_89 rfl ?_
    refine v_iconst X (pc := 90) (v := (5 : Int32)) eL_duty_90 (by decide) ?_
    refine v_icmp_ne X (pc := 91) (tgt := 109) h eL_duty_91 (by decide) (fun h => ?_) (fun h => ?_)
    · refine v_iload X (pc := 94) 2 rfl eL_duty_94 ?_
      refine v_iload X (pc := 96) 1 rfl eL_duty_96 ?_
      refine v_iconst X (pc := 98) (v := (1 : Int32)) eL_duty_98 (by decide) ?_
      refine v_iadd X (pc := 99) eL_duty_99 ?_
      refine v_iconst X (pc := 100) (v := (4 : Int32)) eL_duty_100 (by decide) ?_
      refine v_irem X (pc := 101) h eL_duty_101 (fun h => ?_)
      refine v_icmp_ne X (pc := 102) (tgt := 109) h eL_duty_102 (by decide) (fun h => ?_) (fun h => ?_)
      · refine v_iconst X (pc := 105) (v := (1 : Int32)) eL_duty_105 (by decide) ?_
        refine v_goto X (pc := 106) (tgt := 110) eL_duty_106 (by decide) ?_
        exact v_zret X (pc := 110) h hr rfl eL_duty_110
      · refine v_iconst X (pc := 109) (v := (0 : Int32)) eL_duty_109 (by decide) ?_
        exact v_zret X (pc := 110) h hr rfl eL_duty_110
    · refine v_iconst X (pc := 109) (v := (0 : Int32)) eL_duty_109 (by decide) ?_
      exact v_zret X (pc := 110) h hr rfl eL_duty_110
set_option maxHeartbeats 4000000 in
set_option maxRecDepth 100000 in
theorem cL_duty_60 {p : Program} {l : Launch} {e : Env} {s : State} {m : MethodId} {args : Array Value} {below : List Frame} {meth : Method} {c : Code} {k : KK} {f : Nat} {o : Int32} {mem' : Mem} (X : CX p s m args meth c k method_4_code 7 "WallShiftsLaw") (hr : meth.sig.returnType = (Option.some Jvm.ClassFile.FieldType.boolean)) : ∀ (x3 : Int32) (x4 : Int32) (x5 : Int32) (x6 : Int32) (mem : Mem), dL_duty_60 f x3 x4 x5 x6 mem = some (o, mem') → V p l e (rmM 0 0) s m args below meth c 0 0 (MQ below (RQc k (some (aI o)) mem') args s 0 0 (kA k)) k 7 mem 60 [(0, aR 13 0), (3, aI x3), (4, aI x4), (5, aI x5), (6, aI x6)] [] := by
  intro x3 x4 x5 x6 mem  h
  unfold dL_duty_60 at h
  refine v_iload X (pc := 60) 3 rfl eL_duty_60 ?_
  refine v_aload_n X (pc := 62) 0 rfl eL_duty_62 rfl ?_
  refine v_iconst X (pc := 63) (v := (2 : Int32)) eL_duty_63 (by decide) ?_
  refine v_ialdK X (pc := 64) (n := 66) 2 (by decide) (by decide) (by decide) (by decide) rfl eL_duty_64 ?_
  refine v_icmp_lt X (pc := 65) (tgt := 80) h eL_duty_65 (by decide) (fun h => ?_) (fun h => ?_)
  · refine v_iconst X (pc := 80) (v := (0 : Int32)) eL_duty_80 (by decide) ?_
    exact v_zret X (pc := 81) h hr rfl eL_duty_81
  · refine v_iload_n X (pc := 68) 1 rfl eL_duty_68 rfl ?_
    refine v_iconst X (pc := 69) (v := (1 : Int32)) eL_duty_69 (by decide) ?_
    refine v_icmp_ne X (pc := 70) (tgt := 82) h eL_duty_70 (by decide) (fun h => ?_) (fun h => ?_)
    · refine v_aload_n X (pc := 73) 0 rfl eL_duty_73 rfl ?_
      refine v_iconst X (pc := 74) (v := (3 : Int32)) eL_duty_74 (by decide) ?_
      refine v_ialdK X (pc := 75) (n := 66) 3 (by decide) (by decide) (by decide) (by decide) rfl eL_duty_75 ?_
      refine v_iconst X (pc := 76) (v := (3 : Int32)) eL_duty_76 (by decide) ?_
      refine v_icmp_ne X (pc := 77) (tgt := 82) h eL_duty_77 (by decide) (fun h => ?_) (fun h => ?_)
      · refine v_iconst X (pc := 80) (v := (0 : Int32)) eL_duty_80 (by decide) ?_
        exact v_zret X (pc := 81) h hr rfl eL_duty_81
      · exact v_sub [1, 2, 4] rfl (cL_duty_82 X hr _ _ _ _  h)
    · exact v_sub [1, 2, 4] rfl (cL_duty_82 X hr _ _ _ _  h)
set_option maxHeartbeats 4000000 in
set_option maxRecDepth 100000 in
theorem cL_duty {f : Nat} {a1 : Int32} {a2 : Int32} {mem : Mem} {o : Int32} {mem' : Mem}  (h : dL_duty f a1 a2 mem = some (o, mem')) : RT yL_duty method_4_code 7 (Option.some Jvm.ClassFile.FieldType.boolean) (rmM 0 0) [aR 13 0, aI a1, aI a2] mem (some (aI o)) mem' := by
  refine RT.of (by decide +kernel) (Nat.le_of_ble_eq_true rfl) (fun p l e s m args below meth c k X hr => ?_)
  replace X : CX p s m args meth c k method_4_code 7 "WallShiftsLaw" := X
  unfold dL_duty at h
  refine v_sub (lv' := [(0, _), (1, _), (2, _)]) [0, 1, 2] rfl ?_
  refine v_aload_n X (pc := 0) 0 rfl eL_duty_0 rfl ?_
  refine v_bipush X (pc := 1) (v := (6 : Int32)) eL_duty_1 (by decide) ?_
  refine v_bipush X (pc := 3) (v := (6 : Int32)) eL_duty_3 (by decide) ?_
  refine v_iload_n X (pc := 5) 1 rfl eL_duty_5 rfl ?_
  refine v_imul X (pc := 6) eL_duty_6 ?_
  refine v_iadd X (pc := 7) eL_duty_7 ?_
  refine v_iald X (pc := 8) h (by decide) (by decide) rfl eL_duty_8 (fun h => ?_)
  refine v_istore_n X (pc := 9) (lv' := [(3, _), (0, _), (1, _), (2, _)]) eL_duty_9 rfl (Nat.le_of_ble_eq_true rfl) rfl ?_
  refine v_aload_n X (pc := 10) 1 rfl eL_duty_10 rfl ?_
  refine v_bipush X (pc := 11) (v := (9 : Int32)) eL_duty_11 (by decide) ?_
  refine v_bipush X (pc := 13) (v := (6 : Int32)) eL_duty_13 (by decide) ?_
  refine v_iload_n X (pc := 15) 2 rfl eL_duty_15 rfl ?_
  refine v_imul X (pc := 16) eL_duty_16 ?_
  refine v_iadd X (pc := 17) eL_duty_17 ?_
  refine v_iald X (pc := 18) h (by decide) (by decide) rfl eL_duty_18 (fun h => ?_)
  refine v_istore X (pc := 19) (lv' := [(4, _), (3, _), (0, _), (1, _), (2, _)]) eL_duty_19 (Nat.le_of_ble_eq_true rfl) rfl ?_
  refine v_iload_n X (pc := 21) 4 rfl eL_duty_21 rfl ?_
  refine v_aload_n X (pc := 22) 2 rfl eL_duty_22 rfl ?_
  refine v_iconst X (pc := 23) (v := (1 : Int32)) eL_duty_23 (by decide) ?_
  refine v_ialdK X (pc := 24) (n := 66) 1 (by decide) (by decide) (by decide) (by decide) rfl eL_duty_24 ?_
  refine v_irem X (pc := 25) h eL_duty_25 (fun h => ?_)
  refine v_istore X (pc := 26) (lv' := [(5, _), (4, _), (3, _), (0, _), (1, _), (2, _)]) eL_duty_26 (Nat.le_of_ble_eq_true rfl) rfl ?_
  refine v_iload_n X (pc := 28) 5 rfl eL_duty_28 rfl ?_
  refine v_aload_n X (pc := 29) 3 rfl eL_duty_29 rfl ?_
  refine v_iconst X (pc := 30) (v := (1 : Int32)) eL_duty_30 (by decide) ?_
  refine v_ialdK X (pc := 31) (n := 66) 1 (by decide) (by decide) (by decide) (by decide) rfl eL_duty_31 ?_
  refine v_idiv X (pc := 32) h eL_duty_32 (fun h => ?_)
  refine v_iconst X (pc := 33) (v := (4 : Int32)) eL_duty_33 (by decide) ?_
  refine v_irem X (pc := 34) h eL_duty_34 (fun h => ?_)
  refine v_istore X (pc := 35) (lv' := [(6, _), (5, _), (4, _), (3, _), (0, _), (1, _), (2, _)]) eL_duty_35 (Nat.le_of_ble_eq_true rfl) rfl ?_
  refine v_iload_n X (pc := 37) 3 rfl eL_duty_37 rfl ?_
  refine v_iconst X (pc := 38) (v := (4 : Int32)) eL_duty_38 (by decide) ?_
  refine v_icmp_ne X (pc := 39) (tgt := 60) h eL_duty_39 (by decide) (fun h => ?_) (fun h => ?_)
  · refine v_aload_n X (pc := 42) 4 rfl eL_duty_42 rfl ?_
    refine v_iconst X (pc := 43) (v := (3 : Int32)) eL_duty_43 (by decide) ?_
    refine v_ialdK X (pc := 44) (n := 66) 3 (by decide) (by decide) (by decide) (by decide) rfl eL_duty_44 ?_
    refine v_iconst X (pc := 45) (v := (3 : Int32)) eL_duty_45 (by decide) ?_
    refine v_icmp_ne X (pc := 46) (tgt := 60) h eL_duty_46 (by decide) (fun h => ?_) (fun h => ?_)
    · refine v_iload X (pc := 49) 1 rfl eL_duty_49 ?_
      refine v_if_ne X (pc := 51) (tgt := 58) h eL_duty_51 (by decide) (fun h => ?_) (fun h => ?_)
      · refine v_iconst X (pc := 54) (v := (1 : Int32)) eL_duty_54 (by decide) ?_
        refine v_goto X (pc := 55) (tgt := 59) eL_duty_55 (by decide) ?_
        exact v_zret X (pc := 59) h hr rfl eL_duty_59
      · refine v_iconst X (pc := 58) (v := (0 : Int32)) eL_duty_58 (by decide) ?_
        exact v_zret X (pc := 59) h hr rfl eL_duty_59
    · exact v_sub [4, 3, 2, 1, 0] rfl (cL_duty_60 X hr _ _ _ _ _  h)
  · exact v_sub [4, 3, 2, 1, 0] rfl (cL_duty_60 X hr _ _ _ _ _  h)
set_option maxHeartbeats 4000000 in
set_option maxRecDepth 100000 in
theorem cL_tires {f : Nat} {a1 : Int32} {mem : Mem} {o : Int32} {mem' : Mem}  (h : dL_tires f a1 mem = some (o, mem')) : RT yL_tires method_6_code 3 (Option.some Jvm.ClassFile.FieldType.int) (rmM 0 0) [aR 13 0, aI a1] mem (some (aI o)) mem' := by
  refine RT.of (by decide +kernel) (Nat.le_of_ble_eq_true rfl) (fun p l e s m args below meth c k X hr => ?_)
  replace X : CX p s m args meth c k method_6_code 3 "WallShiftsLaw" := X
  unfold dL_tires at h
  refine v_sub (lv' := [(0, _), (1, _)]) [0, 1] rfl ?_
  refine v_aload_n X (pc := 0) 0 rfl eL_tires_0 rfl ?_
  refine v_bipush X (pc := 1) (v := (6 : Int32)) eL_tires_1 (by decide) ?_
  refine v_bipush X (pc := 3) (v := (6 : Int32)) eL_tires_3 (by decide) ?_
  refine v_iload_n X (pc := 5) 1 rfl eL_tires_5 rfl ?_
  refine v_imul X (pc := 6) eL_tires_6 ?_
  refine v_iadd X (pc := 7) eL_tires_7 ?_
  refine v_iald X (pc := 8) h (by decide) (by decide) rfl eL_tires_8 (fun h => ?_)
  refine v_istore_n X (pc := 9) (lv' := [(2, _), (0, _), (1, _)]) eL_tires_9 rfl (Nat.le_of_ble_eq_true rfl) rfl ?_
  refine v_iload_n X (pc := 10) 0 rfl eL_tires_10 rfl ?_
  refine v_iconst X (pc := 11) (v := (4 : Int32)) eL_tires_11 (by decide) ?_
  refine v_icmp_ne X (pc := 12) (tgt := 19) h eL_tires_12 (by decide) (fun h => ?_) (fun h => ?_)
  · refine v_iconst X (pc := 15) (v := (0 : Int32)) eL_tires_15 (by decide) ?_
    refine v_goto X (pc := 16) (tgt := 34) eL_tires_16 (by decide) ?_
    exact v_iret X (pc := 34) h hr eL_tires_34
  · refine v_iload_n X (pc := 19) 0 rfl eL_tires_19 rfl ?_
    refine v_iconst X (pc := 20) (v := (3 : Int32)) eL_tires_20 (by decide) ?_
    refine v_icmp_eq X (pc := 21) (tgt := 29) h eL_tires_21 (by decide) (fun h => ?_) (fun h => ?_)
    · refine v_iconst X (pc := 29) (v := (2 : Int32)) eL_tires_29 (by decide) ?_
      refine v_goto X (pc := 30) (tgt := 34) eL_tires_30 (by decide) ?_
      exact v_iret X (pc := 34) h hr eL_tires_34
    · refine v_iload_n X (pc := 24) 0 rfl eL_tires_24 rfl ?_
      refine v_iconst X (pc := 25) (v := (5 : Int32)) eL_tires_25 (by decide) ?_
      refine v_icmp_ne X (pc := 26) (tgt := 33) h eL_tires_26 (by decide) (fun h => ?_) (fun h => ?_)
      · refine v_iconst X (pc := 29) (v := (2 : Int32)) eL_tires_29 (by decide) ?_
        refine v_goto X (pc := 30) (tgt := 34) eL_tires_30 (by decide) ?_
        exact v_iret X (pc := 34) h hr eL_tires_34
      · refine v_iconst X (pc := 33) (v := (1 : Int32)) eL_tires_33 (by decide) ?_
        exact v_iret X (pc := 34) h hr eL_tires_34
set_option maxHeartbeats 4000000 in
set_option maxRecDepth 100000 in
theorem cL_reach_15 {p : Program} {l : Launch} {e : Env} {s : State} {m : MethodId} {args : Array Value} {below : List Frame} {meth : Method} {c : Code} {k : KK} {f : Nat} {o : Int32} {mem' : Mem} (X : CX p s m args meth c k method_7_code 6 "WallShiftsLaw") (hr : meth.sig.returnType = (Option.some Jvm.ClassFile.FieldType.int)) {k6 : Int32 → Int32 → Mem → Option (Int32 × Mem)} (hk6 : ∀ (x2 : Int32) (x3 : Int32) (mem : Mem), k6 x2 x3 mem = some (o, mem') → V p l e (rmM 0 0) s m args below meth c 0 0 (MQ below (RQc k (some (aI o)) mem') args s 0 0 (kA k)) k 6 mem 6 [(0, aR 13 0), (2, aI x2), (3, aI x3)] []) : ∀ (n : Nat) (x2 : Int32) (x3 : Int32) (x4 : Int32) (mem : Mem), dL_reach_15 f k6 n x2 x3 x4 mem = some (o, mem') → V p l e (rmM 0 0) s m args below meth c 0 0 (MQ below (RQc k (some (aI o)) mem') args s 0 0 (kA k)) k 6 mem 15 [(0, aR 13 0), (2, aI x2), (3, aI x3), (4, aI x4)] [] := by
  intro n
  induction n with
  | zero =>
    intro x2 x3 x4 mem  h
    exact nomatch (show (none : Option (Int32 × Mem)) = some _ from h)
  | succ n ih =>
    intro x2 x3 x4 mem  h
    rw [dL_reach_15] at h
    refine v_iload X (pc := 15) 3 rfl eL_reach_15 ?_
    refine v_aload_n X (pc := 17) 0 rfl eL_reach_17 rfl ?_
    refine v_iconst X (pc := 18) (v := (5 : Int32)) eL_reach_18 (by decide) ?_
    refine v_ialdK X (pc := 19) (n := 66) 5 (by decide) (by decide) (by decide) (by decide) rfl eL_reach_19 ?_
    refine v_icmp_ge X (pc := 20) (tgt := 82) h eL_reach_20 (by decide) (fun h => ?_) (fun h => ?_)
    · refine v_iconst X (pc := 23) (v := (1 : Int32)) eL_reach_23 (by decide) ?_
      refine v_aload_n X (pc := 24) 0 rfl eL_reach_24 rfl ?_
      refine v_bipush X (pc := 25) (v := (7 : Int32)) eL_reach_25 (by decide) ?_
      refine v_bipush X (pc := 27) (v := (6 : Int32)) eL_reach_27 (by decide) ?_
      refine v_iload X (pc := 29) 3 rfl eL_reach_29 ?_
      refine v_imul X (pc := 31) eL_reach_31 ?_
      refine v_iadd X (pc := 32) eL_reach_32 ?_
      refine v_iald X (pc := 33) h (by decide) (by decide) rfl eL_reach_33 (fun h => ?_)
      refine v_ishl X (pc := 34) eL_reach_34 ?_
      refine v_iconst X (pc := 35) (v := (1 : Int32)) eL_reach_35 (by decide) ?_
      refine v_aload_n X (pc := 36) 0 rfl eL_reach_36 rfl ?_
      refine v_bipush X (pc := 37) (v := (8 : Int32)) eL_reach_37 (by decide) ?_
      refine v_bipush X (pc := 39) (v := (6 : Int32)) eL_reach_39 (by decide) ?_
      refine v_iload X (pc := 41) 3 rfl eL_reach_41 ?_
      refine v_imul X (pc := 43) eL_reach_43 ?_
      refine v_iadd X (pc := 44) eL_reach_44 ?_
      refine v_iald X (pc := 45) h (by decide) (by decide) rfl eL_reach_45 (fun h => ?_)
      refine v_ishl X (pc := 46) eL_reach_46 ?_
      refine v_ior X (pc := 47) eL_reach_47 ?_
      refine v_istore X (pc := 48) (lv' := [(5, _), (0, _), (2, _), (3, _), (4, _)]) eL_reach_48 (Nat.le_of_ble_eq_true rfl) rfl ?_
      refine v_aload_n X (pc := 50) 1 rfl eL_reach_50 rfl ?_
      refine v_bipush X (pc := 51) (v := (6 : Int32)) eL_reach_51 (by decide) ?_
      refine v_bipush X (pc := 53) (v := (6 : Int32)) eL_reach_53 (by decide) ?_
      refine v_iload X (pc := 55) 4 rfl eL_reach_55 ?_
      refine v_imul X (pc := 57) eL_reach_57 ?_
      refine v_iadd X (pc := 58) eL_reach_58 ?_
      refine v_iald X (pc := 59) h (by decide) (by decide) rfl eL_reach_59 (fun h => ?_)
      refine v_iconst X (pc := 60) (v := (3 : Int32)) eL_reach_60 (by decide) ?_
      refine v_icmp_ne X (pc := 61) (tgt := 76) h eL_reach_61 (by decide) (fun h => ?_) (fun h => ?_)
      · refine v_iload X (pc := 64) 0 rfl eL_reach_64 ?_
        refine v_iload_n X (pc := 66) 2 rfl eL_reach_66 rfl ?_
        refine v_iand X (pc := 67) eL_reach_67 ?_
        refine v_if_eq X (pc := 68) (tgt := 76) h eL_reach_68 (by decide) (fun h => ?_) (fun h => ?_)
        · refine v_iinc X (pc := 76) (v := (x4 + (1 : Int32))) (lv' := [(4, _), (5, _), (0, _), (2, _), (3, _)]) 4 rfl (by rfl) eL_reach_76 (Nat.le_of_ble_eq_true rfl) rfl ?_
          refine v_goto X (pc := 79) (tgt := 15) eL_reach_79 (by decide) ?_
          exact v_sub [2, 3, 4, 0] rfl (ih _ _ _ _  h)
        · refine v_iload_n X (pc := 71) 2 rfl eL_reach_71 rfl ?_
          refine v_iload X (pc := 72) 0 rfl eL_reach_72 ?_
          refine v_ior X (pc := 74) eL_reach_74 ?_
          refine v_istore_n X (pc := 75) (lv' := [(2, _), (5, _), (0, _), (3, _), (4, _)]) eL_reach_75 rfl (Nat.le_of_ble_eq_true rfl) rfl ?_
          refine v_iinc X (pc := 76) (v := (x4 + (1 : Int32))) (lv' := [(4, _), (2, _), (5, _), (0, _), (3, _)]) 4 rfl (by rfl) eL_reach_76 (Nat.le_of_ble_eq_true rfl) rfl ?_
          refine v_goto X (pc := 79) (tgt := 15) eL_reach_79 (by decide) ?_
          exact v_sub [3, 1, 4, 0] rfl (ih _ _ _ _  h)
      · refine v_iinc X (pc := 76) (v := (x4 + (1 : Int32))) (lv' := [(4, _), (5, _), (0, _), (2, _), (3, _)]) 4 rfl (by rfl) eL_reach_76 (Nat.le_of_ble_eq_true rfl) rfl ?_
        refine v_goto X (pc := 79) (tgt := 15) eL_reach_79 (by decide) ?_
        exact v_sub [2, 3, 4, 0] rfl (ih _ _ _ _  h)
    · refine v_iinc X (pc := 82) (v := (x3 + (1 : Int32))) (lv' := [(3, _), (0, _), (2, _), (4, _)]) 2 rfl (by rfl) eL_reach_82 (Nat.le_of_ble_eq_true rfl) rfl ?_
      refine v_goto X (pc := 85) (tgt := 6) eL_reach_85 (by decide) ?_
      exact v_sub [1, 2, 0] rfl (hk6 _ _ _  h)
set_option maxHeartbeats 4000000 in
set_option maxRecDepth 100000 in
theorem cL_reach_6 {p : Program} {l : Launch} {e : Env} {s : State} {m : MethodId} {args : Array Value} {below : List Frame} {meth : Method} {c : Code} {k : KK} {f : Nat} {o : Int32} {mem' : Mem} (X : CX p s m args meth c k method_7_code 6 "WallShiftsLaw") (hr : meth.sig.returnType = (Option.some Jvm.ClassFile.FieldType.int)) : ∀ (n : Nat) (x2 : Int32) (x3 : Int32) (mem : Mem), dL_reach_6 f n x2 x3 mem = some (o, mem') → V p l e (rmM 0 0) s m args below meth c 0 0 (MQ below (RQc k (some (aI o)) mem') args s 0 0 (kA k)) k 6 mem 6 [(0, aR 13 0), (2, aI x2), (3, aI x3)] [] := by
  intro n
  induction n with
  | zero =>
    intro x2 x3 mem  h
    exact nomatch (show (none : Option (Int32 × Mem)) = some _ from h)
  | succ n ih =>
    intro x2 x3 mem  h
    rw [dL_reach_6] at h
    refine v_iload_n X (pc := 6) 2 rfl eL_reach_6 rfl ?_
    refine v_bipush X (pc := 7) (v := (10 : Int32)) eL_reach_7 (by decide) ?_
    refine v_icmp_ge X (pc := 9) (tgt := 88) h eL_reach_9 (by decide) (fun h => ?_) (fun h => ?_)
    · refine v_iconst X (pc := 12) (v := (0 : Int32)) eL_reach_12 (by decide) ?_
      refine v_istore X (pc := 13) (lv' := [(4, _), (0, _), (2, _), (3, _)]) eL_reach_13 (Nat.le_of_ble_eq_true rfl) rfl ?_
      exact v_sub [1, 2, 3, 0] rfl (cL_reach_15 X hr ih _ _ _ _ _  h)
    · refine v_iload_n X (pc := 88) 1 rfl eL_reach_88 rfl ?_
      exact v_iret X (pc := 89) h hr eL_reach_89
set_option maxHeartbeats 4000000 in
set_option maxRecDepth 100000 in
theorem cL_reach {f : Nat} {a1 : Int32} {mem : Mem} {o : Int32} {mem' : Mem}  (h : dL_reach f a1 mem = some (o, mem')) : RT yL_reach method_7_code 6 (Option.some Jvm.ClassFile.FieldType.int) (rmM 0 0) [aR 13 0, aI a1] mem (some (aI o)) mem' := by
  refine RT.of (by decide +kernel) (Nat.le_of_ble_eq_true rfl) (fun p l e s m args below meth c k X hr => ?_)
  replace X : CX p s m args meth c k method_7_code 6 "WallShiftsLaw" := X
  unfold dL_reach at h
  refine v_sub (lv' := [(0, _), (1, _)]) [0, 1] rfl ?_
  refine v_iconst X (pc := 0) (v := (1 : Int32)) eL_reach_0 (by decide) ?_
  refine v_iload_n X (pc := 1) 1 rfl eL_reach_1 rfl ?_
  refine v_ishl X (pc := 2) eL_reach_2 ?_
  refine v_istore_n X (pc := 3) (lv' := [(2, _), (0, _), (1, _)]) eL_reach_3 rfl (Nat.le_of_ble_eq_true rfl) rfl ?_
  refine v_iconst X (pc := 4) (v := (0 : Int32)) eL_reach_4 (by decide) ?_
  refine v_istore_n X (pc := 5) (lv' := [(3, _), (2, _), (0, _), (1, _)]) eL_reach_5 rfl (Nat.le_of_ble_eq_true rfl) rfl ?_
  exact v_sub [2, 1, 0] rfl (cL_reach_6 X hr _ _ _ _  h)
set_option maxHeartbeats 4000000 in
set_option maxRecDepth 100000 in
theorem cL_isSo_213 {p : Program} {l : Launch} {e : Env} {s : State} {m : MethodId} {args : Array Value} {below : List Frame} {meth : Method} {c : Code} {k : KK} {f : Nat} {o : Int32} {mem' : Mem} (X : CX p s m args meth c k method_19_code 10 "WallShiftsLaw") (hr : meth.sig.returnType = (Option.some Jvm.ClassFile.FieldType.boolean)) {k16 : Int32 → Int32 → Int32 → Int32 → Int32 → Int32 → Mem → Option (Int32 × Mem)} (hk16 : ∀ (x2 : Int32) (x3 : Int32) (x4 : Int32) (x5 : Int32) (x6 : Int32) (x7 : Int32) (mem : Mem), k16 x2 x3 x4 x5 x6 x7 mem = some (o, mem') → V p l e (rmM 4 98) s m args below meth c 0 0 (MQ below (RQc k (some (aI o)) mem') args s 0 0 (kA k)) k 10 mem 16 [(0, aR 0 0), (1, aR 13 0), (2, aI x2), (3, aI x3), (4, aI x4), (5, aI x5), (6, aI x6), (7, aI x7)] []) : ∀ (x2 : Int32) (x3 : Int32) (x4 : Int32) (x5 : Int32) (x6 : Int32) (x7 : Int32) (x8 : Int32) (mem : Mem), dL_isSo_213 f k16 x2 x3 x4 x5 x6 x7 x8 mem = some (o, mem') → V p l e (rmM 4 98) s m args below meth c 0 0 (MQ below (RQc k (some (aI o)) mem') args s 0 0 (kA k)) k 10 mem 213 [(0, aR 0 0), (1, aR 13 0), (2, aI x2), (3, aI x3), (4, aI x4), (5, aI x5), (6, aI x6), (7, aI x7), (8, aI x8)] [] := by
  intro x2 x3 x4 x5 x6 x7 x8 mem  h
  unfold dL_isSo_213 at h
  refine v_iload X (pc := 213) 8 rfl eL_isSo_213 ?_
  refine v_if_eq X (pc := 215) (tgt := 227) h eL_isSo_215 (by decide) (fun h => ?_) (fun h => ?_)
  · refine v_iinc X (pc := 227) (v := (x7 + (1 : Int32))) (lv' := [(7, _), (0, _), (1, _), (2, _), (3, _), (4, _), (5, _), (6, _), (8, _)]) 7 rfl (by rfl) eL_isSo_227 (Nat.le_of_ble_eq_true rfl) rfl ?_
    refine v_goto X (pc := 230) (tgt := 16) eL_isSo_230 (by decide) ?_
    exact v_sub [1, 2, 3, 4, 5, 6, 7, 0] rfl (hk16 _ _ _ _ _ _ _  h)
  · refine v_iload X (pc := 218) 6 rfl eL_isSo_218 ?_
    refine v_iconst X (pc := 220) (v := (1 : Int32)) eL_isSo_220 (by decide) ?_
    refine v_iload X (pc := 221) 7 rfl eL_isSo_221 ?_
    refine v_ishl X (pc := 223) eL_isSo_223 ?_
    refine v_ior X (pc := 224) eL_isSo_224 ?_
    refine v_istore X (pc := 225) (lv' := [(6, _), (0, _), (1, _), (2, _), (3, _), (4, _), (5, _), (7, _), (8, _)]) eL_isSo_225 (Nat.le_of_ble_eq_true rfl) rfl ?_
    refine v_iinc X (pc := 227) (v := (x7 + (1 : Int32))) (lv' := [(7, _), (6, _), (0, _), (1, _), (2, _), (3, _), (4, _), (5, _), (8, _)]) 7 rfl (by rfl) eL_isSo_227 (Nat.le_of_ble_eq_true rfl) rfl ?_
    refine v_goto X (pc := 230) (tgt := 16) eL_isSo_230 (by decide) ?_
    exact v_sub [2, 3, 4, 5, 6, 7, 1, 0] rfl (hk16 _ _ _ _ _ _ _  h)
set_option maxHeartbeats 4000000 in
set_option maxRecDepth 100000 in
theorem cL_isSo_139 {p : Program} {l : Launch} {e : Env} {s : State} {m : MethodId} {args : Array Value} {below : List Frame} {meth : Method} {c : Code} {k : KK} {f : Nat} {o : Int32} {mem' : Mem} (X : CX p s m args meth c k method_19_code 10 "WallShiftsLaw") (hr : meth.sig.returnType = (Option.some Jvm.ClassFile.FieldType.boolean)) {k16 : Int32 → Int32 → Int32 → Int32 → Int32 → Int32 → Mem → Option (Int32 × Mem)} (hk16 : ∀ (x2 : Int32) (x3 : Int32) (x4 : Int32) (x5 : Int32) (x6 : Int32) (x7 : Int32) (mem : Mem), k16 x2 x3 x4 x5 x6 x7 mem = some (o, mem') → V p l e (rmM 4 98) s m args below meth c 0 0 (MQ below (RQc k (some (aI o)) mem') args s 0 0 (kA k)) k 10 mem 16 [(0, aR 0 0), (1, aR 13 0), (2, aI x2), (3, aI x3), (4, aI x4), (5, aI x5), (6, aI x6), (7, aI x7)] []) : ∀ (x2 : Int32) (x3 : Int32) (x4 : Int32) (x5 : Int32) (x6 : Int32) (x7 : Int32) (x8 : Int32) (x9 : Int32) (s0 : Int32) (s1 : Int32) (mem : Mem), dL_isSo_139 f k16 x2 x3 x4 x5 x6 x7 x8 x9 s0 s1 mem = some (o, mem') → V p l e (rmM 4 98) s m args below meth c 0 0 (MQ below (RQc k (some (aI o)) mem') args s 0 0 (kA k)) k 10 mem 139 [(0, aR 0 0), (1, aR 13 0), (2, aI x2), (3, aI x3), (4, aI x4), (5, aI x5), (6, aI x6), (7, aI x7), (8, aI x8), (9, aI x9)] [aI s1, aI s0] := by
  intro x2 x3 x4 x5 x6 x7 x8 x9 s0 s1 mem  h
  unfold dL_isSo_139 at h
  refine v_icmp_ne X (pc := 139) (tgt := 159) h eL_isSo_139 (by decide) (fun h => ?_) (fun h => ?_)
  · refine v_aload_n X (pc := 142) 0 rfl eL_isSo_142 rfl ?_
    refine v_iload X (pc := 143) 7 rfl eL_isSo_143 ?_
    refine v_bipush X (pc := 145) (v := (8 : Int32)) eL_isSo_145 (by decide) ?_
    obtain ⟨r1, m1, hc1, h⟩ := bd_some h
    refine v_callV X (pc := 147) [_, _] [] ok_V_L_69 (cW_of  hc1) rfl (Nat.le_of_ble_eq_true rfl) ⟨Nat.le_of_ble_eq_true rfl, Nat.le_of_ble_eq_true rfl⟩ ⟨Nat.zero_le _, Nat.zero_le _⟩ (by decide) (by decide) rfl rfl eL_isSo_147 ?_
    refine v_aload_n X (pc := 150) 1 rfl eL_isSo_150 rfl ?_
    refine v_iload X (pc := 151) 7 rfl eL_isSo_151 ?_
    obtain ⟨r2, m2, hc2, h⟩ := bd_some h
    refine v_callS X (pc := 153) [_, _] [_] ok_S_L_24 (cL_tires  hc2) rfl (Nat.le_of_ble_eq_true rfl) ⟨Nat.le_of_ble_eq_true rfl, Nat.le_of_ble_eq_true rfl⟩ ⟨Nat.zero_le _, Nat.zero_le _⟩ eL_isSo_153 ?_
    refine v_icmp_eq X (pc := 156) (tgt := 161) h eL_isSo_156 (by decide) (fun h => ?_) (fun h => ?_)
    · refine v_iload_n X (pc := 161) 2 rfl eL_isSo_161 rfl ?_
      refine v_aload_n X (pc := 162) 1 rfl eL_isSo_162 rfl ?_
      refine v_bipush X (pc := 163) (v := (10 : Int32)) eL_isSo_163 (by decide) ?_
      refine v_bipush X (pc := 165) (v := (6 : Int32)) eL_isSo_165 (by decide) ?_
      refine v_iload X (pc := 167) 7 rfl eL_isSo_167 ?_
      refine v_imul X (pc := 169) eL_isSo_169 ?_
      refine v_iadd X (pc := 170) eL_isSo_170 ?_
      refine v_iald X (pc := 171) h (by decide) (by decide) rfl eL_isSo_171 (fun h => ?_)
      refine v_ior X (pc := 172) eL_isSo_172 ?_
      refine v_istore_n X (pc := 173) (lv' := [(2, _), (0, _), (1, _), (3, _), (4, _), (5, _), (6, _), (7, _), (8, _), (9, _)]) eL_isSo_173 rfl (Nat.le_of_ble_eq_true rfl) rfl ?_
      refine v_iload_n X (pc := 174) 3 rfl eL_isSo_174 rfl ?_
      refine v_aload_n X (pc := 175) 2 rfl eL_isSo_175 rfl ?_
      refine v_bipush X (pc := 176) (v := (11 : Int32)) eL_isSo_176 (by decide) ?_
      refine v_bipush X (pc := 178) (v := (6 : Int32)) eL_isSo_178 (by decide) ?_
      refine v_iload X (pc := 180) 7 rfl eL_isSo_180 ?_
      refine v_imul X (pc := 182) eL_isSo_182 ?_
      refine v_iadd X (pc := 183) eL_isSo_183 ?_
      refine v_iald X (pc := 184) h (by decide) (by decide) rfl eL_isSo_184 (fun h => ?_)
      refine v_iadd X (pc := 185) eL_isSo_185 ?_
      refine v_istore_n X (pc := 186) (lv' := [(3, _), (2, _), (0, _), (1, _), (4, _), (5, _), (6, _), (7, _), (8, _), (9, _)]) eL_isSo_186 rfl (Nat.le_of_ble_eq_true rfl) rfl ?_
      refine v_iload X (pc := 187) 4 rfl eL_isSo_187 ?_
      refine v_aload_n X (pc := 189) 3 rfl eL_isSo_189 rfl ?_
      refine v_bipush X (pc := 190) (v := (10 : Int32)) eL_isSo_190 (by decide) ?_
      refine v_bipush X (pc := 192) (v := (6 : Int32)) eL_isSo_192 (by decide) ?_
      refine v_iload X (pc := 194) 7 rfl eL_isSo_194 ?_
      refine v_imul X (pc := 196) eL_isSo_196 ?_
      refine v_iadd X (pc := 197) eL_isSo_197 ?_
      refine v_iald X (pc := 198) h (by decide) (by decide) rfl eL_isSo_198 (fun h => ?_)
      obtain ⟨r3, m3, hc3, h⟩ := bd_some h
      refine v_callS X (pc := 199) [_] [_] ok_S_L_30 (cL_ones  hc3) rfl (Nat.le_of_ble_eq_true rfl) ⟨Nat.le_of_ble_eq_true rfl, Nat.le_of_ble_eq_true rfl⟩ ⟨Nat.zero_le _, Nat.zero_le _⟩ eL_isSo_199 ?_
      refine v_iadd X (pc := 202) eL_isSo_202 ?_
      refine v_istore X (pc := 203) (lv' := [(4, _), (3, _), (2, _), (0, _), (1, _), (5, _), (6, _), (7, _), (8, _), (9, _)]) eL_isSo_203 (Nat.le_of_ble_eq_true rfl) rfl ?_
      refine v_iload X (pc := 205) 9 rfl eL_isSo_205 ?_
      refine v_if_eq X (pc := 207) (tgt := 213) h eL_isSo_207 (by decide) (fun h => ?_) (fun h => ?_)
      · exact v_sub [3, 4, 2, 1, 0, 5, 6, 7, 8] rfl (cL_isSo_213 X hr hk16 _ _ _ _ _ _ _ _  h)
      · refine v_iinc X (pc := 210) (v := (x5 + (1 : Int32))) (lv' := [(5, _), (4, _), (3, _), (2, _), (0, _), (1, _), (6, _), (7, _), (8, _), (9, _)]) 5 rfl (by rfl) eL_isSo_210 (Nat.le_of_ble_eq_true rfl) rfl ?_
        exact v_sub [4, 5, 3, 2, 1, 0, 6, 7, 8] rfl (cL_isSo_213 X hr hk16 _ _ _ _ _ _ _ _  h)
    · refine v_iconst X (pc := 159) (v := (0 : Int32)) eL_isSo_159 (by decide) ?_
      exact v_zret X (pc := 160) h hr rfl eL_isSo_160
  · refine v_iconst X (pc := 159) (v := (0 : Int32)) eL_isSo_159 (by decide) ?_
    exact v_zret X (pc := 160) h hr rfl eL_isSo_160
set_option maxHeartbeats 4000000 in
set_option maxRecDepth 100000 in
theorem cL_isSo_118 {p : Program} {l : Launch} {e : Env} {s : State} {m : MethodId} {args : Array Value} {below : List Frame} {meth : Method} {c : Code} {k : KK} {f : Nat} {o : Int32} {mem' : Mem} (X : CX p s m args meth c k method_19_code 10 "WallShiftsLaw") (hr : meth.sig.returnType = (Option.some Jvm.ClassFile.FieldType.boolean)) {k16 : Int32 → Int32 → Int32 → Int32 → Int32 → Int32 → Mem → Option (Int32 × Mem)} (hk16 : ∀ (x2 : Int32) (x3 : Int32) (x4 : Int32) (x5 : Int32) (x6 : Int32) (x7 : Int32) (mem : Mem), k16 x2 x3 x4 x5 x6 x7 mem = some (o, mem') → V p l e (rmM 4 98) s m args below meth c 0 0 (MQ below (RQc k (some (aI o)) mem') args s 0 0 (kA k)) k 10 mem 16 [(0, aR 0 0), (1, aR 13 0), (2, aI x2), (3, aI x3), (4, aI x4), (5, aI x5), (6, aI x6), (7, aI x7)] []) : ∀ (x2 : Int32) (x3 : Int32) (x4 : Int32) (x5 : Int32) (x6 : Int32) (x7 : Int32) (x8 : Int32) (x9 : Int32) (s0 : Int32) (s1 : Int32) (mem : Mem), dL_isSo_118 f k16 x2 x3 x4 x5 x6 x7 x8 x9 s0 s1 mem = some (o, mem') → V p l e (rmM 4 98) s m args below meth c 0 0 (MQ below (RQc k (some (aI o)) mem') args s 0 0 (kA k)) k 10 mem 118 [(0, aR 0 0), (1, aR 13 0), (2, aI x2), (3, aI x3), (4, aI x4), (5, aI x5), (6, aI x6), (7, aI x7), (8, aI x8), (9, aI x9)] [aI s1, aI s0] := by
  intro x2 x3 x4 x5 x6 x7 x8 x9 s0 s1 mem  h
  unfold dL_isSo_118 at h
  refine v_icmp_ne X (pc := 118) (tgt := 159) h eL_isSo_118 (by decide) (fun h => ?_) (fun h => ?_)
  · refine v_aload_n X (pc := 121) 0 rfl eL_isSo_121 rfl ?_
    refine v_iload X (pc := 122) 7 rfl eL_isSo_122 ?_
    refine v_bipush X (pc := 124) (v := (7 : Int32)) eL_isSo_124 (by decide) ?_
    obtain ⟨r1, m1, hc1, h⟩ := bd_some h
    refine v_callV X (pc := 126) [_, _] [] ok_V_L_69 (cW_of  hc1) rfl (Nat.le_of_ble_eq_true rfl) ⟨Nat.le_of_ble_eq_true rfl, Nat.le_of_ble_eq_true rfl⟩ ⟨Nat.zero_le _, Nat.zero_le _⟩ (by decide) (by decide) rfl rfl eL_isSo_126 ?_
    refine v_iload X (pc := 129) 9 rfl eL_isSo_129 ?_
    refine v_if_eq X (pc := 131) (tgt := 138) h eL_isSo_131 (by decide) (fun h => ?_) (fun h => ?_)
    · refine v_iconst X (pc := 138) (v := (0 : Int32)) eL_isSo_138 (by decide) ?_
      exact v_sub [0, 1, 2, 3, 4, 5, 6, 7, 8, 9] rfl (cL_isSo_139 X hr hk16 _ _ _ _ _ _ _ _ _ _ _  h)
    · refine v_iconst X (pc := 134) (v := (1 : Int32)) eL_isSo_134 (by decide) ?_
      refine v_goto X (pc := 135) (tgt := 139) eL_isSo_135 (by decide) ?_
      exact v_sub [0, 1, 2, 3, 4, 5, 6, 7, 8, 9] rfl (cL_isSo_139 X hr hk16 _ _ _ _ _ _ _ _ _ _ _  h)
  · refine v_iconst X (pc := 159) (v := (0 : Int32)) eL_isSo_159 (by decide) ?_
    exact v_zret X (pc := 160) h hr rfl eL_isSo_160
set_option maxHeartbeats 4000000 in
set_option maxRecDepth 100000 in
theorem cL_isSo_98 {p : Program} {l : Launch} {e : Env} {s : State} {m : MethodId} {args : Array Value} {below : List Frame} {meth : Method} {c : Code} {k : KK} {f : Nat} {o : Int32} {mem' : Mem} (X : CX p s m args meth c k method_19_code 10 "WallShiftsLaw") (hr : meth.sig.returnType = (Option.some Jvm.ClassFile.FieldType.boolean)) {k16 : Int32 → Int32 → Int32 → Int32 → Int32 → Int32 → Mem → Option (Int32 × Mem)} (hk16 : ∀ (x2 : Int32) (x3 : Int32) (x4 : Int32) (x5 : Int32) (x6 : Int32) (x7 : Int32) (mem : Mem), k16 x2 x3 x4 x5 x6 x7 mem = some (o, mem') → V p l e (rmM 4 98) s m args below meth c 0 0 (MQ below (RQc k (some (aI o)) mem') args s 0 0 (kA k)) k 10 mem 16 [(0, aR 0 0), (1, aR 13 0), (2, aI x2), (3, aI x3), (4, aI x4), (5, aI x5), (6, aI x6), (7, aI x7)] []) : ∀ (x2 : Int32) (x3 : Int32) (x4 : Int32) (x5 : Int32) (x6 : Int32) (x7 : Int32) (x8 : Int32) (s0 : Int32) (mem : Mem), dL_isSo_98 f k16 x2 x3 x4 x5 x6 x7 x8 s0 mem = some (o, mem') → V p l e (rmM 4 98) s m args below meth c 0 0 (MQ below (RQc k (some (aI o)) mem') args s 0 0 (kA k)) k 10 mem 98 [(0, aR 0 0), (1, aR 13 0), (2, aI x2), (3, aI x3), (4, aI x4), (5, aI x5), (6, aI x6), (7, aI x7), (8, aI x8)] [aI s0] := by
  intro x2 x3 x4 x5 x6 x7 x8 s0 mem  h
  unfold dL_isSo_98 at h
  refine v_istore X (pc := 98) (lv' := [(9, _), (0, _), (1, _), (2, _), (3, _), (4, _), (5, _), (6, _), (7, _), (8, _)]) eL_isSo_98 (Nat.le_of_ble_eq_true rfl) rfl ?_
  refine v_aload_n X (pc := 100) 1 rfl eL_isSo_100 rfl ?_
  refine v_iload X (pc := 101) 8 rfl eL_isSo_101 ?_
  refine v_bipush X (pc := 103) (v := (6 : Int32)) eL_isSo_103 (by decide) ?_
  obtain ⟨r1, m1, hc1, h⟩ := bd_some h
  refine v_callV X (pc := 105) [_, _] [] ok_V_L_69 (cW_of  hc1) rfl (Nat.le_of_ble_eq_true rfl) ⟨Nat.le_of_ble_eq_true rfl, Nat.le_of_ble_eq_true rfl⟩ ⟨Nat.zero_le _, Nat.zero_le _⟩ (by decide) (by decide) rfl rfl eL_isSo_105 ?_
  refine v_iload X (pc := 108) 9 rfl eL_isSo_108 ?_
  refine v_if_eq X (pc := 110) (tgt := 117) h eL_isSo_110 (by decide) (fun h => ?_) (fun h => ?_)
  · refine v_iconst X (pc := 117) (v := (0 : Int32)) eL_isSo_117 (by decide) ?_
    exact v_sub [1, 2, 3, 4, 5, 6, 7, 8, 9, 0] rfl (cL_isSo_118 X hr hk16 _ _ _ _ _ _ _ _ _ _ _  h)
  · refine v_iconst X (pc := 113) (v := (1 : Int32)) eL_isSo_113 (by decide) ?_
    refine v_goto X (pc := 114) (tgt := 118) eL_isSo_114 (by decide) ?_
    exact v_sub [1, 2, 3, 4, 5, 6, 7, 8, 9, 0] rfl (cL_isSo_118 X hr hk16 _ _ _ _ _ _ _ _ _ _ _  h)
set_option maxHeartbeats 4000000 in
set_option maxRecDepth 100000 in
theorem cL_isSo_27 {p : Program} {l : Launch} {e : Env} {s : State} {m : MethodId} {args : Array Value} {below : List Frame} {meth : Method} {c : Code} {k : KK} {f : Nat} {o : Int32} {mem' : Mem} (X : CX p s m args meth c k method_19_code 10 "WallShiftsLaw") (hr : meth.sig.returnType = (Option.some Jvm.ClassFile.FieldType.boolean)) {k16 : Int32 → Int32 → Int32 → Int32 → Int32 → Int32 → Mem → Option (Int32 × Mem)} (hk16 : ∀ (x2 : Int32) (x3 : Int32) (x4 : Int32) (x5 : Int32) (x6 : Int32) (x7 : Int32) (mem : Mem), k16 x2 x3 x4 x5 x6 x7 mem = some (o, mem') → V p l e (rmM 4 98) s m args below meth c 0 0 (MQ below (RQc k (some (aI o)) mem') args s 0 0 (kA k)) k 10 mem 16 [(0, aR 0 0), (1, aR 13 0), (2, aI x2), (3, aI x3), (4, aI x4), (5, aI x5), (6, aI x6), (7, aI x7)] []) : ∀ (n : Nat) (x2 : Int32) (x3 : Int32) (x4 : Int32) (x5 : Int32) (x6 : Int32) (x7 : Int32) (x8 : Int32) (mem : Mem), dL_isSo_27 f k16 n x2 x3 x4 x5 x6 x7 x8 mem = some (o, mem') → V p l e (rmM 4 98) s m args below meth c 0 0 (MQ below (RQc k (some (aI o)) mem') args s 0 0 (kA k)) k 10 mem 27 [(0, aR 0 0), (1, aR 13 0), (2, aI x2), (3, aI x3), (4, aI x4), (5, aI x5), (6, aI x6), (7, aI x7), (8, aI x8)] [] := by
  intro n
  induction n with
  | zero =>
    intro x2 x3 x4 x5 x6 x7 x8 mem  h
    exact nomatch (show (none : Option (Int32 × Mem)) = some _ from h)
  | succ n ih =>
    intro x2 x3 x4 x5 x6 x7 x8 mem  h
    rw [dL_isSo_27] at h
    refine v_iload X (pc := 27) 8 rfl eL_isSo_27 ?_
    refine v_bipush X (pc := 29) (v := (6 : Int32)) eL_isSo_29 (by decide) ?_
    refine v_icmp_ge X (pc := 31) (tgt := 66) h eL_isSo_31 (by decide) (fun h => ?_) (fun h => ?_)
    · refine v_aload_n X (pc := 34) 0 rfl eL_isSo_34 rfl ?_
      refine v_iload X (pc := 35) 7 rfl eL_isSo_35 ?_
      refine v_iload X (pc := 37) 8 rfl eL_isSo_37 ?_
      obtain ⟨r1, m1, hc1, h⟩ := bd_some h
      refine v_callV X (pc := 39) [_, _] [] ok_V_L_69 (cW_of  hc1) rfl (Nat.le_of_ble_eq_true rfl) ⟨Nat.le_of_ble_eq_true rfl, Nat.le_of_ble_eq_true rfl⟩ ⟨Nat.zero_le _, Nat.zero_le _⟩ (by decide) (by decide) rfl rfl eL_isSo_39 ?_
      refine v_aload_n X (pc := 42) 1 rfl eL_isSo_42 rfl ?_
      refine v_bipush X (pc := 43) (v := (6 : Int32)) eL_isSo_43 (by decide) ?_
      refine v_bipush X (pc := 45) (v := (6 : Int32)) eL_isSo_45 (by decide) ?_
      refine v_iload X (pc := 47) 7 rfl eL_isSo_47 ?_
      refine v_imul X (pc := 49) eL_isSo_49 ?_
      refine v_iadd X (pc := 50) eL_isSo_50 ?_
      refine v_iload X (pc := 51) 8 rfl eL_isSo_51 ?_
      refine v_iadd X (pc := 53) eL_isSo_53 ?_
      refine v_iald X (pc := 54) h (by decide) (by decide) rfl eL_isSo_54 (fun h => ?_)
      refine v_icmp_eq X (pc := 55) (tgt := 60) h eL_isSo_55 (by decide) (fun h => ?_) (fun h => ?_)
      · refine v_iinc X (pc := 60) (v := (x8 + (1 : Int32))) (lv' := [(8, _), (0, _), (1, _), (2, _), (3, _), (4, _), (5, _), (6, _), (7, _)]) 8 rfl (by rfl) eL_isSo_60 (Nat.le_of_ble_eq_true rfl) rfl ?_
        refine v_goto X (pc := 63) (tgt := 27) eL_isSo_63 (by decide) ?_
        exact v_sub [1, 2, 3, 4, 5, 6, 7, 8, 0] rfl (ih _ _ _ _ _ _ _ _  h)
      · refine v_iconst X (pc := 58) (v := (0 : Int32)) eL_isSo_58 (by decide) ?_
        exact v_zret X (pc := 59) h hr rfl eL_isSo_59
    · refine v_aload_n X (pc := 66) 1 rfl eL_isSo_66 rfl ?_
      refine v_iload X (pc := 67) 7 rfl eL_isSo_67 ?_
      refine v_aload_n X (pc := 69) 1 rfl eL_isSo_69 rfl ?_
      refine v_iconst X (pc := 70) (v := (0 : Int32)) eL_isSo_70 (by decide) ?_
      refine v_ialdK X (pc := 71) (n := 66) 0 (by decide) (by decide) (by decide) (by decide) rfl eL_isSo_71 ?_
      obtain ⟨r2, m2, hc2, h⟩ := bd_some h
      refine v_callS X (pc := 72) [_, _, _] [] ok_S_L_17 (cL_duty  hc2) rfl (Nat.le_of_ble_eq_true rfl) ⟨Nat.le_of_ble_eq_true rfl, Nat.le_of_ble_eq_true rfl⟩ ⟨Nat.zero_le _, Nat.zero_le _⟩ eL_isSo_72 ?_
      refine v_istore X (pc := 75) (lv' := [(8, _), (0, _), (1, _), (2, _), (3, _), (4, _), (5, _), (6, _), (7, _)]) eL_isSo_75 (Nat.le_of_ble_eq_true rfl) rfl ?_
      refine v_aload_n X (pc := 77) 2 rfl eL_isSo_77 rfl ?_
      refine v_bipush X (pc := 78) (v := (11 : Int32)) eL_isSo_78 (by decide) ?_
      refine v_bipush X (pc := 80) (v := (6 : Int32)) eL_isSo_80 (by decide) ?_
      refine v_iload X (pc := 82) 8 rfl eL_isSo_82 ?_
      refine v_imul X (pc := 84) eL_isSo_84 ?_
      refine v_iadd X (pc := 85) eL_isSo_85 ?_
      refine v_iald X (pc := 86) h (by decide) (by decide) rfl eL_isSo_86 (fun h => ?_)
      refine v_aload_n X (pc := 87) 2 rfl eL_isSo_87 rfl ?_
      refine v_iconst X (pc := 88) (v := (4 : Int32)) eL_isSo_88 (by decide) ?_
      refine v_ialdK X (pc := 89) (n := 66) 4 (by decide) (by decide) (by decide) (by decide) rfl eL_isSo_89 ?_
      refine v_icmp_ge X (pc := 90) (tgt := 97) h eL_isSo_90 (by decide) (fun h => ?_) (fun h => ?_)
      · refine v_iconst X (pc := 93) (v := (1 : Int32)) eL_isSo_93 (by decide) ?_
        refine v_goto X (pc := 94) (tgt := 98) eL_isSo_94 (by decide) ?_
        exact v_sub [1, 2, 3, 4, 5, 6, 7, 8, 0] rfl (cL_isSo_98 X hr hk16 _ _ _ _ _ _ _ _ _  h)
      · refine v_iconst X (pc := 97) (v := (0 : Int32)) eL_isSo_97 (by decide) ?_
        exact v_sub [1, 2, 3, 4, 5, 6, 7, 8, 0] rfl (cL_isSo_98 X hr hk16 _ _ _ _ _ _ _ _ _  h)
set_option maxHeartbeats 4000000 in
set_option maxRecDepth 100000 in
theorem cL_isSo_269 {p : Program} {l : Launch} {e : Env} {s : State} {m : MethodId} {args : Array Value} {below : List Frame} {meth : Method} {c : Code} {k : KK} {f : Nat} {o : Int32} {mem' : Mem} (X : CX p s m args meth c k method_19_code 10 "WallShiftsLaw") (hr : meth.sig.returnType = (Option.some Jvm.ClassFile.FieldType.boolean)) : ∀ (n : Nat) (x2 : Int32) (x3 : Int32) (x4 : Int32) (x5 : Int32) (x6 : Int32) (x7 : Int32) (mem : Mem), dL_isSo_269 f n x2 x3 x4 x5 x6 x7 mem = some (o, mem') → V p l e (rmM 4 98) s m args below meth c 0 0 (MQ below (RQc k (some (aI o)) mem') args s 0 0 (kA k)) k 10 mem 269 [(0, aR 0 0), (1, aR 13 0), (2, aI x2), (3, aI x3), (4, aI x4), (5, aI x5), (6, aI x6), (7, aI x7)] [] := by
  intro n
  induction n with
  | zero =>
    intro x2 x3 x4 x5 x6 x7 mem  h
    exact nomatch (show (none : Option (Int32 × Mem)) = some _ from h)
  | succ n ih =>
    intro x2 x3 x4 x5 x6 x7 mem  h
    rw [dL_isSo_269] at h
    refine v_iload X (pc := 269) 7 rfl eL_isSo_269 ?_
    refine v_iconst X (pc := 271) (v := (5 : Int32)) eL_isSo_271 (by decide) ?_
    refine v_icmp_ge X (pc := 272) (tgt := 296) h eL_isSo_272 (by decide) (fun h => ?_) (fun h => ?_)
    · refine v_aload_n X (pc := 275) 0 rfl eL_isSo_275 rfl ?_
      refine v_iload X (pc := 276) 7 rfl eL_isSo_276 ?_
      obtain ⟨r1, m1, hc1, h⟩ := bd_some h
      refine v_callV X (pc := 278) [_] [] ok_V_L_74 (cW_now  hc1) rfl (Nat.le_of_ble_eq_true rfl) ⟨Nat.le_of_ble_eq_true rfl, Nat.le_of_ble_eq_true rfl⟩ ⟨Nat.zero_le _, Nat.zero_le _⟩ (by decide) (by decide) rfl rfl eL_isSo_278 ?_
      refine v_aload_n X (pc := 281) 1 rfl eL_isSo_281 rfl ?_
      refine v_iload X (pc := 282) 7 rfl eL_isSo_282 ?_
      refine v_iald X (pc := 284) h (by decide) (by decide) rfl eL_isSo_284 (fun h => ?_)
      refine v_icmp_eq X (pc := 285) (tgt := 290) h eL_isSo_285 (by decide) (fun h => ?_) (fun h => ?_)
      · refine v_iinc X (pc := 290) (v := (x7 + (1 : Int32))) (lv' := [(7, _), (0, _), (1, _), (2, _), (3, _), (4, _), (5, _), (6, _)]) 7 rfl (by rfl) eL_isSo_290 (Nat.le_of_ble_eq_true rfl) rfl ?_
        refine v_goto X (pc := 293) (tgt := 269) eL_isSo_293 (by decide) ?_
        exact v_sub [1, 2, 3, 4, 5, 6, 7, 0] rfl (ih _ _ _ _ _ _ _  h)
      · refine v_iconst X (pc := 288) (v := (0 : Int32)) eL_isSo_288 (by decide) ?_
        exact v_zret X (pc := 289) h hr rfl eL_isSo_289
    · refine v_aload_n X (pc := 296) 0 rfl eL_isSo_296 rfl ?_
      refine v_iconst X (pc := 297) (v := (5 : Int32)) eL_isSo_297 (by decide) ?_
      obtain ⟨r2, m2, hc2, h⟩ := bd_some h
      refine v_callV X (pc := 298) [_] [] ok_V_L_74 (cW_now  hc2) rfl (Nat.le_of_ble_eq_true rfl) ⟨Nat.le_of_ble_eq_true rfl, Nat.le_of_ble_eq_true rfl⟩ ⟨Nat.zero_le _, Nat.zero_le _⟩ (by decide) (by decide) rfl rfl eL_isSo_298 ?_
      refine v_iload_n X (pc := 301) 2 rfl eL_isSo_301 rfl ?_
      refine v_icmp_ne X (pc := 302) (tgt := 362) h eL_isSo_302 (by decide) (fun h => ?_) (fun h => ?_)
      · refine v_aload_n X (pc := 305) 0 rfl eL_isSo_305 rfl ?_
        refine v_bipush X (pc := 306) (v := (6 : Int32)) eL_isSo_306 (by decide) ?_
        obtain ⟨r3, m3, hc3, h⟩ := bd_some h
        refine v_callV X (pc := 308) [_] [] ok_V_L_74 (cW_now  hc3) rfl (Nat.le_of_ble_eq_true rfl) ⟨Nat.le_of_ble_eq_true rfl, Nat.le_of_ble_eq_true rfl⟩ ⟨Nat.zero_le _, Nat.zero_le _⟩ (by decide) (by decide) rfl rfl eL_isSo_308 ?_
        refine v_iload_n X (pc := 311) 3 rfl eL_isSo_311 rfl ?_
        refine v_icmp_ne X (pc := 312) (tgt := 362) h eL_isSo_312 (by decide) (fun h => ?_) (fun h => ?_)
        · refine v_aload_n X (pc := 315) 0 rfl eL_isSo_315 rfl ?_
          refine v_aload_n X (pc := 316) 1 rfl eL_isSo_316 rfl ?_
          refine v_iconst X (pc := 317) (v := (0 : Int32)) eL_isSo_317 (by decide) ?_
          refine v_ialdK X (pc := 318) (n := 66) 0 (by decide) (by decide) (by decide) (by decide) rfl eL_isSo_318 ?_
          obtain ⟨r4, m4, hc4, h⟩ := bd_some h
          refine v_callV X (pc := 319) [_] [] ok_V_L_77 (cW_duty  hc4) rfl (Nat.le_of_ble_eq_true rfl) ⟨Nat.le_of_ble_eq_true rfl, Nat.le_of_ble_eq_true rfl⟩ ⟨Nat.zero_le _, Nat.zero_le _⟩ (by decide) (by decide) rfl rfl eL_isSo_319 ?_
          refine v_iload X (pc := 322) 6 rfl eL_isSo_322 ?_
          refine v_icmp_ne X (pc := 324) (tgt := 362) h eL_isSo_324 (by decide) (fun h => ?_) (fun h => ?_)
          · refine v_aload_n X (pc := 327) 0 rfl eL_isSo_327 rfl ?_
            refine v_iconst X (pc := 328) (v := (0 : Int32)) eL_isSo_328 (by decide) ?_
            obtain ⟨r5, m5, hc5, h⟩ := bd_some h
            refine v_callV X (pc := 329) [_] [] ok_V_L_79 (cW_count  hc5) rfl (Nat.le_of_ble_eq_true rfl) ⟨Nat.le_of_ble_eq_true rfl, Nat.le_of_ble_eq_true rfl⟩ ⟨Nat.zero_le _, Nat.zero_le _⟩ (by decide) (by decide) rfl rfl eL_isSo_329 ?_
            refine v_aload_n X (pc := 332) 1 rfl eL_isSo_332 rfl ?_
            refine v_iconst X (pc := 333) (v := (5 : Int32)) eL_isSo_333 (by decide) ?_
            refine v_ialdK X (pc := 334) (n := 66) 5 (by decide) (by decide) (by decide) (by decide) rfl eL_isSo_334 ?_
            refine v_icmp_ne X (pc := 335) (tgt := 362) h eL_isSo_335 (by decide) (fun h => ?_) (fun h => ?_)
            · refine v_aload_n X (pc := 338) 0 rfl eL_isSo_338 rfl ?_
              refine v_iconst X (pc := 339) (v := (2 : Int32)) eL_isSo_339 (by decide) ?_
              obtain ⟨r6, m6, hc6, h⟩ := bd_some h
              refine v_callV X (pc := 340) [_] [] ok_V_L_79 (cW_count  hc6) rfl (Nat.le_of_ble_eq_true rfl) ⟨Nat.le_of_ble_eq_true rfl, Nat.le_of_ble_eq_true rfl⟩ ⟨Nat.zero_le _, Nat.zero_le _⟩ (by decide) (by decide) rfl rfl eL_isSo_340 ?_
              refine v_iload X (pc := 343) 4 rfl eL_isSo_343 ?_
              refine v_icmp_ne X (pc := 345) (tgt := 362) h eL_isSo_345 (by decide) (fun h => ?_) (fun h => ?_)
              · refine v_aload_n X (pc := 348) 0 rfl eL_isSo_348 rfl ?_
                refine v_iconst X (pc := 349) (v := (3 : Int32)) eL_isSo_349 (by decide) ?_
                obtain ⟨r7, m7, hc7, h⟩ := bd_some h
                refine v_callV X (pc := 350) [_] [] ok_V_L_79 (cW_count  hc7) rfl (Nat.le_of_ble_eq_true rfl) ⟨Nat.le_of_ble_eq_true rfl, Nat.le_of_ble_eq_true rfl⟩ ⟨Nat.zero_le _, Nat.zero_le _⟩ (by decide) (by decide) rfl rfl eL_isSo_350 ?_
                refine v_iload X (pc := 353) 5 rfl eL_isSo_353 ?_
                refine v_icmp_ne X (pc := 355) (tgt := 362) h eL_isSo_355 (by decide) (fun h => ?_) (fun h => ?_)
                · refine v_iconst X (pc := 358) (v := (1 : Int32)) eL_isSo_358 (by decide) ?_
                  refine v_goto X (pc := 359) (tgt := 363) eL_isSo_359 (by decide) ?_
                  exact v_zret X (pc := 363) h hr rfl eL_isSo_363
                · refine v_iconst X (pc := 362) (v := (0 : Int32)) eL_isSo_362 (by decide) ?_
                  exact v_zret X (pc := 363) h hr rfl eL_isSo_363
              · refine v_iconst X (pc := 362) (v := (0 : Int32)) eL_isSo_362 (by decide) ?_
                exact v_zret X (pc := 363) h hr rfl eL_isSo_363
            · refine v_iconst X (pc := 362) (v := (0 : Int32)) eL_isSo_362 (by decide) ?_
              exact v_zret X (pc := 363) h hr rfl eL_isSo_363
          · refine v_iconst X (pc := 362) (v := (0 : Int32)) eL_isSo_362 (by decide) ?_
            exact v_zret X (pc := 363) h hr rfl eL_isSo_363
        · refine v_iconst X (pc := 362) (v := (0 : Int32)) eL_isSo_362 (by decide) ?_
          exact v_zret X (pc := 363) h hr rfl eL_isSo_363
      · refine v_iconst X (pc := 362) (v := (0 : Int32)) eL_isSo_362 (by decide) ?_
        exact v_zret X (pc := 363) h hr rfl eL_isSo_363
set_option maxHeartbeats 4000000 in
set_option maxRecDepth 100000 in
theorem cL_isSo_236 {p : Program} {l : Launch} {e : Env} {s : State} {m : MethodId} {args : Array Value} {below : List Frame} {meth : Method} {c : Code} {k : KK} {f : Nat} {o : Int32} {mem' : Mem} (X : CX p s m args meth c k method_19_code 10 "WallShiftsLaw") (hr : meth.sig.returnType = (Option.some Jvm.ClassFile.FieldType.boolean)) : ∀ (n : Nat) (x2 : Int32) (x3 : Int32) (x4 : Int32) (x5 : Int32) (x6 : Int32) (x7 : Int32) (mem : Mem), dL_isSo_236 f n x2 x3 x4 x5 x6 x7 mem = some (o, mem') → V p l e (rmM 4 98) s m args below meth c 0 0 (MQ below (RQc k (some (aI o)) mem') args s 0 0 (kA k)) k 10 mem 236 [(0, aR 0 0), (1, aR 13 0), (2, aI x2), (3, aI x3), (4, aI x4), (5, aI x5), (6, aI x6), (7, aI x7)] [] := by
  intro n
  induction n with
  | zero =>
    intro x2 x3 x4 x5 x6 x7 mem  h
    exact nomatch (show (none : Option (Int32 × Mem)) = some _ from h)
  | succ n ih =>
    intro x2 x3 x4 x5 x6 x7 mem  h
    rw [dL_isSo_236] at h
    refine v_iload X (pc := 236) 7 rfl eL_isSo_236 ?_
    refine v_bipush X (pc := 238) (v := (10 : Int32)) eL_isSo_238 (by decide) ?_
    refine v_icmp_ge X (pc := 240) (tgt := 266) h eL_isSo_240 (by decide) (fun h => ?_) (fun h => ?_)
    · refine v_aload_n X (pc := 243) 0 rfl eL_isSo_243 rfl ?_
      refine v_iload X (pc := 244) 7 rfl eL_isSo_244 ?_
      obtain ⟨r1, m1, hc1, h⟩ := bd_some h
      refine v_callV X (pc := 246) [_] [] ok_V_L_72 (cW_reach  hc1) rfl (Nat.le_of_ble_eq_true rfl) ⟨Nat.le_of_ble_eq_true rfl, Nat.le_of_ble_eq_true rfl⟩ ⟨Nat.zero_le _, Nat.zero_le _⟩ (by decide) (by decide) rfl rfl eL_isSo_246 ?_
      refine v_aload_n X (pc := 249) 1 rfl eL_isSo_249 rfl ?_
      refine v_iload X (pc := 250) 7 rfl eL_isSo_250 ?_
      obtain ⟨r2, m2, hc2, h⟩ := bd_some h
      refine v_callS X (pc := 252) [_, _] [_] ok_S_L_7 (cL_reach  hc2) rfl (Nat.le_of_ble_eq_true rfl) ⟨Nat.le_of_ble_eq_true rfl, Nat.le_of_ble_eq_true rfl⟩ ⟨Nat.zero_le _, Nat.zero_le _⟩ eL_isSo_252 ?_
      refine v_icmp_eq X (pc := 255) (tgt := 260) h eL_isSo_255 (by decide) (fun h => ?_) (fun h => ?_)
      · refine v_iinc X (pc := 260) (v := (x7 + (1 : Int32))) (lv' := [(7, _), (0, _), (1, _), (2, _), (3, _), (4, _), (5, _), (6, _)]) 7 rfl (by rfl) eL_isSo_260 (Nat.le_of_ble_eq_true rfl) rfl ?_
        refine v_goto X (pc := 263) (tgt := 236) eL_isSo_263 (by decide) ?_
        exact v_sub [1, 2, 3, 4, 5, 6, 7, 0] rfl (ih _ _ _ _ _ _ _  h)
      · refine v_iconst X (pc := 258) (v := (0 : Int32)) eL_isSo_258 (by decide) ?_
        exact v_zret X (pc := 259) h hr rfl eL_isSo_259
    · refine v_iconst X (pc := 266) (v := (0 : Int32)) eL_isSo_266 (by decide) ?_
      refine v_istore X (pc := 267) (lv' := [(7, _), (0, _), (1, _), (2, _), (3, _), (4, _), (5, _), (6, _)]) eL_isSo_267 (Nat.le_of_ble_eq_true rfl) rfl ?_
      exact v_sub [1, 2, 3, 4, 5, 6, 7, 0] rfl (cL_isSo_269 X hr _ _ _ _ _ _ _ _  h)
set_option maxHeartbeats 4000000 in
set_option maxRecDepth 100000 in
theorem cL_isSo_16 {p : Program} {l : Launch} {e : Env} {s : State} {m : MethodId} {args : Array Value} {below : List Frame} {meth : Method} {c : Code} {k : KK} {f : Nat} {o : Int32} {mem' : Mem} (X : CX p s m args meth c k method_19_code 10 "WallShiftsLaw") (hr : meth.sig.returnType = (Option.some Jvm.ClassFile.FieldType.boolean)) : ∀ (n : Nat) (x2 : Int32) (x3 : Int32) (x4 : Int32) (x5 : Int32) (x6 : Int32) (x7 : Int32) (mem : Mem), dL_isSo_16 f n x2 x3 x4 x5 x6 x7 mem = some (o, mem') → V p l e (rmM 4 98) s m args below meth c 0 0 (MQ below (RQc k (some (aI o)) mem') args s 0 0 (kA k)) k 10 mem 16 [(0, aR 0 0), (1, aR 13 0), (2, aI x2), (3, aI x3), (4, aI x4), (5, aI x5), (6, aI x6), (7, aI x7)] [] := by
  intro n
  induction n with
  | zero =>
    intro x2 x3 x4 x5 x6 x7 mem  h
    exact nomatch (show (none : Option (Int32 × Mem)) = some _ from h)
  | succ n ih =>
    intro x2 x3 x4 x5 x6 x7 mem  h
    rw [dL_isSo_16] at h
    refine v_iload X (pc := 16) 7 rfl eL_isSo_16 ?_
    refine v_aload_n X (pc := 18) 1 rfl eL_isSo_18 rfl ?_
    refine v_iconst X (pc := 19) (v := (5 : Int32)) eL_isSo_19 (by decide) ?_
    refine v_ialdK X (pc := 20) (n := 66) 5 (by decide) (by decide) (by decide) (by decide) rfl eL_isSo_20 ?_
    refine v_icmp_ge X (pc := 21) (tgt := 233) h eL_isSo_21 (by decide) (fun h => ?_) (fun h => ?_)
    · refine v_iconst X (pc := 24) (v := (0 : Int32)) eL_isSo_24 (by decide) ?_
      refine v_istore X (pc := 25) (lv' := [(8, _), (0, _), (1, _), (2, _), (3, _), (4, _), (5, _), (6, _), (7, _)]) eL_isSo_25 (Nat.le_of_ble_eq_true rfl) rfl ?_
      exact v_sub [1, 2, 3, 4, 5, 6, 7, 8, 0] rfl (cL_isSo_27 X hr ih _ _ _ _ _ _ _ _ _  h)
    · refine v_iconst X (pc := 233) (v := (0 : Int32)) eL_isSo_233 (by decide) ?_
      refine v_istore X (pc := 234) (lv' := [(7, _), (0, _), (1, _), (2, _), (3, _), (4, _), (5, _), (6, _)]) eL_isSo_234 (Nat.le_of_ble_eq_true rfl) rfl ?_
      exact v_sub [1, 2, 3, 4, 5, 6, 7, 0] rfl (cL_isSo_236 X hr _ _ _ _ _ _ _ _  h)
set_option maxHeartbeats 4000000 in
set_option maxRecDepth 100000 in
theorem cL_isSo {f : Nat}  {mem : Mem} {o : Int32} {mem' : Mem}  (h : dL_isSo f  mem = some (o, mem')) : RT yL_isSo method_19_code 10 (Option.some Jvm.ClassFile.FieldType.boolean) (rmM 4 98) [aR 0 0, aR 13 0] mem (some (aI o)) mem' := by
  refine RT.of (by decide +kernel) (Nat.le_of_ble_eq_true rfl) (fun p l e s m args below meth c k X hr => ?_)
  replace X : CX p s m args meth c k method_19_code 10 "WallShiftsLaw" := X
  unfold dL_isSo at h
  refine v_sub (lv' := [(0, _), (1, _)]) [0, 1] rfl ?_
  refine v_iconst X (pc := 0) (v := (0 : Int32)) eL_isSo_0 (by decide) ?_
  refine v_istore_n X (pc := 1) (lv' := [(2, _), (0, _), (1, _)]) eL_isSo_1 rfl (Nat.le_of_ble_eq_true rfl) rfl ?_
  refine v_iconst X (pc := 2) (v := (0 : Int32)) eL_isSo_2 (by decide) ?_
  refine v_istore_n X (pc := 3) (lv' := [(3, _), (2, _), (0, _), (1, _)]) eL_isSo_3 rfl (Nat.le_of_ble_eq_true rfl) rfl ?_
  refine v_iconst X (pc := 4) (v := (0 : Int32)) eL_isSo_4 (by decide) ?_
  refine v_istore X (pc := 5) (lv' := [(4, _), (3, _), (2, _), (0, _), (1, _)]) eL_isSo_5 (Nat.le_of_ble_eq_true rfl) rfl ?_
  refine v_iconst X (pc := 7) (v := (0 : Int32)) eL_isSo_7 (by decide) ?_
  refine v_istore X (pc := 8) (lv' := [(5, _), (4, _), (3, _), (2, _), (0, _), (1, _)]) eL_isSo_8 (Nat.le_of_ble_eq_true rfl) rfl ?_
  refine v_iconst X (pc := 10) (v := (0 : Int32)) eL_isSo_10 (by decide) ?_
  refine v_istore X (pc := 11) (lv' := [(6, _), (5, _), (4, _), (3, _), (2, _), (0, _), (1, _)]) eL_isSo_11 (Nat.le_of_ble_eq_true rfl) rfl ?_
  refine v_iconst X (pc := 13) (v := (0 : Int32)) eL_isSo_13 (by decide) ?_
  refine v_istore X (pc := 14) (lv' := [(7, _), (6, _), (5, _), (4, _), (3, _), (2, _), (0, _), (1, _)]) eL_isSo_14 (Nat.le_of_ble_eq_true rfl) rfl ?_
  exact v_sub [6, 7, 5, 4, 3, 2, 1, 0] rfl (cL_isSo_16 X hr _ _ _ _ _ _ _ _  h)
