/-! GENERATED: the law: its program text from the head of its loop, and its walk. -/
abbrev yL_law : MethodName := x
theorem qw_168 : Cond.code yW_rota prog_1_method_2_code 4 (Option.some Jvm.ClassFile.FieldType.int) ∈ wG := wG_mem (i := 168) (by decide +kernel) (by decide +kernel)
theorem qw_165 : Cond.methodLink "WallShiftsLaw" 13 yW_rota ∈ wG := wG_mem (i := 165) (by decide +kernel) (by decide +kernel)
theorem qw_166 : Cond.instanceMethod yW_rota ∈ wG := wG_mem (i := 166) (by decide +kernel) (by decide +kernel)
theorem qw_167 : Cond.selects yW_rota.cls yW_rota yW_rota ∈ wG := wG_mem (i := 167) (by decide +kernel) (by decide +kernel)
theorem qw_709 : Cond.code yM_rota prog_6_method_20_code 4 (Option.some Jvm.ClassFile.FieldType.int) ∈ wG := wG_mem (i := 709) (by decide +kernel) (by decide +kernel)
theorem qw_706 : Cond.methodLink "WallShiftsLaw" 17 yM_rota ∈ wG := wG_mem (i := 706) (by decide +kernel) (by decide +kernel)
theorem qw_707 : Cond.instanceMethod yM_rota ∈ wG := wG_mem (i := 707) (by decide +kernel) (by decide +kernel)
theorem qw_708 : Cond.selects yM_rota.cls yM_rota yM_rota ∈ wG := wG_mem (i := 708) (by decide +kernel) (by decide +kernel)
theorem qw_187 : Cond.code yW_wall prog_1_method_3_code 4 (Option.some Jvm.ClassFile.FieldType.int) ∈ wG := wG_mem (i := 187) (by decide +kernel) (by decide +kernel)
theorem qw_184 : Cond.methodLink "WallShiftsLaw" 18 yW_wall ∈ wG := wG_mem (i := 184) (by decide +kernel) (by decide +kernel)
theorem qw_185 : Cond.instanceMethod yW_wall ∈ wG := wG_mem (i := 185) (by decide +kernel) (by decide +kernel)
theorem qw_186 : Cond.selects yW_wall.cls yW_wall yW_wall ∈ wG := wG_mem (i := 186) (by decide +kernel) (by decide +kernel)
theorem qw_725 : Cond.code yM_wall prog_6_method_22_code 4 (Option.some Jvm.ClassFile.FieldType.int) ∈ wG := wG_mem (i := 725) (by decide +kernel) (by decide +kernel)
theorem qw_722 : Cond.methodLink "WallShiftsLaw" 22 yM_wall ∈ wG := wG_mem (i := 722) (by decide +kernel) (by decide +kernel)
theorem qw_723 : Cond.instanceMethod yM_wall ∈ wG := wG_mem (i := 723) (by decide +kernel) (by decide +kernel)
theorem qw_724 : Cond.selects yM_wall.cls yM_wall yM_wall ∈ wG := wG_mem (i := 724) (by decide +kernel) (by decide +kernel)
theorem qw_206 : Cond.code yW_of prog_1_method_4_code 4 (Option.some Jvm.ClassFile.FieldType.int) ∈ wG := wG_mem (i := 206) (by decide +kernel) (by decide +kernel)
theorem qw_203 : Cond.methodLink "WallShiftsLaw" 23 yW_of ∈ wG := wG_mem (i := 203) (by decide +kernel) (by decide +kernel)
theorem qw_204 : Cond.instanceMethod yW_of ∈ wG := wG_mem (i := 204) (by decide +kernel) (by decide +kernel)
theorem qw_205 : Cond.selects yW_of.cls yW_of yW_of ∈ wG := wG_mem (i := 205) (by decide +kernel) (by decide +kernel)
theorem qw_744 : Cond.code yM_of prog_6_method_23_code 3 (Option.some Jvm.ClassFile.FieldType.int) ∈ wG := wG_mem (i := 744) (by decide +kernel) (by decide +kernel)
theorem qw_741 : Cond.methodLink "WallShiftsLaw" 26 yM_of ∈ wG := wG_mem (i := 741) (by decide +kernel) (by decide +kernel)
theorem qw_742 : Cond.instanceMethod yM_of ∈ wG := wG_mem (i := 742) (by decide +kernel) (by decide +kernel)
theorem qw_743 : Cond.selects yM_of.cls yM_of yM_of ∈ wG := wG_mem (i := 743) (by decide +kernel) (by decide +kernel)
theorem qw_239 : Cond.code yW_set prog_1_method_5_code 4 (Option.some Jvm.ClassFile.FieldType.int) ∈ wG := wG_mem (i := 239) (by decide +kernel) (by decide +kernel)
theorem qw_236 : Cond.methodLink "WallShiftsLaw" 27 yW_set ∈ wG := wG_mem (i := 236) (by decide +kernel) (by decide +kernel)
theorem qw_237 : Cond.instanceMethod yW_set ∈ wG := wG_mem (i := 237) (by decide +kernel) (by decide +kernel)
theorem qw_238 : Cond.selects yW_set.cls yW_set yW_set ∈ wG := wG_mem (i := 238) (by decide +kernel) (by decide +kernel)
theorem qw_768 : Cond.code yM_set prog_6_method_24_code 5 (Option.some Jvm.ClassFile.FieldType.int) ∈ wG := wG_mem (i := 768) (by decide +kernel) (by decide +kernel)
theorem qw_765 : Cond.methodLink "WallShiftsLaw" 30 yM_set ∈ wG := wG_mem (i := 765) (by decide +kernel) (by decide +kernel)
theorem qw_766 : Cond.instanceMethod yM_set ∈ wG := wG_mem (i := 766) (by decide +kernel) (by decide +kernel)
theorem qw_767 : Cond.selects yM_set.cls yM_set yM_set ∈ wG := wG_mem (i := 767) (by decide +kernel) (by decide +kernel)
theorem qw_249 : Cond.code yW_turn prog_1_method_6_code 3 (Option.some Jvm.ClassFile.FieldType.int) ∈ wG := wG_mem (i := 249) (by decide +kernel) (by decide +kernel)
theorem qw_246 : Cond.methodLink "WallShiftsLaw" 31 yW_turn ∈ wG := wG_mem (i := 246) (by decide +kernel) (by decide +kernel)
theorem qw_247 : Cond.instanceMethod yW_turn ∈ wG := wG_mem (i := 247) (by decide +kernel) (by decide +kernel)
theorem qw_248 : Cond.selects yW_turn.cls yW_turn yW_turn ∈ wG := wG_mem (i := 248) (by decide +kernel) (by decide +kernel)
theorem qw_773 : Cond.code yM_turn prog_6_method_25_code 3 (Option.some Jvm.ClassFile.FieldType.int) ∈ wG := wG_mem (i := 773) (by decide +kernel) (by decide +kernel)
theorem qw_770 : Cond.methodLink "WallShiftsLaw" 34 yM_turn ∈ wG := wG_mem (i := 770) (by decide +kernel) (by decide +kernel)
theorem qw_771 : Cond.instanceMethod yM_turn ∈ wG := wG_mem (i := 771) (by decide +kernel) (by decide +kernel)
theorem qw_772 : Cond.selects yM_turn.cls yM_turn yM_turn ∈ wG := wG_mem (i := 772) (by decide +kernel) (by decide +kernel)
theorem qw_253 : Cond.code yW_as prog_1_method_7_code 4 (Option.some Jvm.ClassFile.FieldType.int) ∈ wG := wG_mem (i := 253) (by decide +kernel) (by decide +kernel)
theorem qw_250 : Cond.methodLink "WallShiftsLaw" 35 yW_as ∈ wG := wG_mem (i := 250) (by decide +kernel) (by decide +kernel)
theorem qw_251 : Cond.instanceMethod yW_as ∈ wG := wG_mem (i := 251) (by decide +kernel) (by decide +kernel)
theorem qw_252 : Cond.selects yW_as.cls yW_as yW_as ∈ wG := wG_mem (i := 252) (by decide +kernel) (by decide +kernel)
theorem qw_777 : Cond.code yM_as prog_6_method_26_code 5 (Option.some Jvm.ClassFile.FieldType.int) ∈ wG := wG_mem (i := 777) (by decide +kernel) (by decide +kernel)
theorem qw_774 : Cond.methodLink "WallShiftsLaw" 38 yM_as ∈ wG := wG_mem (i := 774) (by decide +kernel) (by decide +kernel)
theorem qw_775 : Cond.instanceMethod yM_as ∈ wG := wG_mem (i := 775) (by decide +kernel) (by decide +kernel)
theorem qw_776 : Cond.selects yM_as.cls yM_as yM_as ∈ wG := wG_mem (i := 776) (by decide +kernel) (by decide +kernel)
theorem qw_263 : Cond.code yW_hears prog_1_method_8_code 4 (Option.some Jvm.ClassFile.FieldType.int) ∈ wG := wG_mem (i := 263) (by decide +kernel) (by decide +kernel)
theorem qw_260 : Cond.methodLink "WallShiftsLaw" 39 yW_hears ∈ wG := wG_mem (i := 260) (by decide +kernel) (by decide +kernel)
theorem qw_261 : Cond.instanceMethod yW_hears ∈ wG := wG_mem (i := 261) (by decide +kernel) (by decide +kernel)
theorem qw_262 : Cond.selects yW_hears.cls yW_hears yW_hears ∈ wG := wG_mem (i := 262) (by decide +kernel) (by decide +kernel)
theorem qw_782 : Cond.code yM_hears prog_6_method_27_code 4 (Option.some Jvm.ClassFile.FieldType.int) ∈ wG := wG_mem (i := 782) (by decide +kernel) (by decide +kernel)
theorem qw_779 : Cond.methodLink "WallShiftsLaw" 42 yM_hears ∈ wG := wG_mem (i := 779) (by decide +kernel) (by decide +kernel)
theorem qw_780 : Cond.instanceMethod yM_hears ∈ wG := wG_mem (i := 780) (by decide +kernel) (by decide +kernel)
theorem qw_781 : Cond.selects yM_hears.cls yM_hears yM_hears ∈ wG := wG_mem (i := 781) (by decide +kernel) (by decide +kernel)
theorem qw_274 : Cond.code yW_say prog_1_method_9_code 3 (Option.some Jvm.ClassFile.FieldType.int) ∈ wG := wG_mem (i := 274) (by decide +kernel) (by decide +kernel)
theorem qw_271 : Cond.methodLink "WallShiftsLaw" 43 yW_say ∈ wG := wG_mem (i := 271) (by decide +kernel) (by decide +kernel)
theorem qw_272 : Cond.instanceMethod yW_say ∈ wG := wG_mem (i := 272) (by decide +kernel) (by decide +kernel)
theorem qw_273 : Cond.selects yW_say.cls yW_say yW_say ∈ wG := wG_mem (i := 273) (by decide +kernel) (by decide +kernel)
theorem qw_794 : Cond.code yM_say prog_6_method_29_code 3 (Option.some Jvm.ClassFile.FieldType.int) ∈ wG := wG_mem (i := 794) (by decide +kernel) (by decide +kernel)
theorem qw_791 : Cond.methodLink "WallShiftsLaw" 46 yM_say ∈ wG := wG_mem (i := 791) (by decide +kernel) (by decide +kernel)
theorem qw_792 : Cond.instanceMethod yM_say ∈ wG := wG_mem (i := 792) (by decide +kernel) (by decide +kernel)
theorem qw_793 : Cond.selects yM_say.cls yM_say yM_say ∈ wG := wG_mem (i := 793) (by decide +kernel) (by decide +kernel)
theorem qw_300 : Cond.code yW_pass prog_1_method_10_code 3 (Option.some Jvm.ClassFile.FieldType.int) ∈ wG := wG_mem (i := 300) (by decide +kernel) (by decide +kernel)
theorem qw_297 : Cond.methodLink "WallShiftsLaw" 47 yW_pass ∈ wG := wG_mem (i := 297) (by decide +kernel) (by decide +kernel)
theorem qw_298 : Cond.instanceMethod yW_pass ∈ wG := wG_mem (i := 298) (by decide +kernel) (by decide +kernel)
theorem qw_299 : Cond.selects yW_pass.cls yW_pass yW_pass ∈ wG := wG_mem (i := 299) (by decide +kernel) (by decide +kernel)
theorem qw_816 : Cond.code yM_pass prog_6_method_31_code 3 (Option.some Jvm.ClassFile.FieldType.int) ∈ wG := wG_mem (i := 816) (by decide +kernel) (by decide +kernel)
theorem qw_813 : Cond.methodLink "WallShiftsLaw" 51 yM_pass ∈ wG := wG_mem (i := 813) (by decide +kernel) (by decide +kernel)
theorem qw_814 : Cond.instanceMethod yM_pass ∈ wG := wG_mem (i := 814) (by decide +kernel) (by decide +kernel)
theorem qw_815 : Cond.selects yM_pass.cls yM_pass yM_pass ∈ wG := wG_mem (i := 815) (by decide +kernel) (by decide +kernel)
theorem qw_310 : Cond.code yW_speak prog_1_method_11_code 3 (Option.some Jvm.ClassFile.FieldType.int) ∈ wG := wG_mem (i := 310) (by decide +kernel) (by decide +kernel)
theorem qw_307 : Cond.methodLink "WallShiftsLaw" 52 yW_speak ∈ wG := wG_mem (i := 307) (by decide +kernel) (by decide +kernel)
theorem qw_308 : Cond.instanceMethod yW_speak ∈ wG := wG_mem (i := 308) (by decide +kernel) (by decide +kernel)
theorem qw_309 : Cond.selects yW_speak.cls yW_speak yW_speak ∈ wG := wG_mem (i := 309) (by decide +kernel) (by decide +kernel)
theorem qw_826 : Cond.code yM_speak prog_6_method_33_code 3 (Option.some Jvm.ClassFile.FieldType.int) ∈ wG := wG_mem (i := 826) (by decide +kernel) (by decide +kernel)
theorem qw_823 : Cond.methodLink "WallShiftsLaw" 55 yM_speak ∈ wG := wG_mem (i := 823) (by decide +kernel) (by decide +kernel)
theorem qw_824 : Cond.instanceMethod yM_speak ∈ wG := wG_mem (i := 824) (by decide +kernel) (by decide +kernel)
theorem qw_825 : Cond.selects yM_speak.cls yM_speak yM_speak ∈ wG := wG_mem (i := 825) (by decide +kernel) (by decide +kernel)
theorem qw_332 : Cond.code yW_reach prog_1_method_12_code 2 (Option.some Jvm.ClassFile.FieldType.int) ∈ wG := wG_mem (i := 332) (by decide +kernel) (by decide +kernel)
theorem qw_329 : Cond.methodLink "WallShiftsLaw" 56 yW_reach ∈ wG := wG_mem (i := 329) (by decide +kernel) (by decide +kernel)
theorem qw_330 : Cond.instanceMethod yW_reach ∈ wG := wG_mem (i := 330) (by decide +kernel) (by decide +kernel)
theorem qw_331 : Cond.selects yW_reach.cls yW_reach yW_reach ∈ wG := wG_mem (i := 331) (by decide +kernel) (by decide +kernel)
theorem qw_837 : Cond.code yM_reach prog_6_method_34_code 2 (Option.some Jvm.ClassFile.FieldType.int) ∈ wG := wG_mem (i := 837) (by decide +kernel) (by decide +kernel)
theorem qw_834 : Cond.methodLink "WallShiftsLaw" 59 yM_reach ∈ wG := wG_mem (i := 834) (by decide +kernel) (by decide +kernel)
theorem qw_835 : Cond.instanceMethod yM_reach ∈ wG := wG_mem (i := 835) (by decide +kernel) (by decide +kernel)
theorem qw_836 : Cond.selects yM_reach.cls yM_reach yM_reach ∈ wG := wG_mem (i := 836) (by decide +kernel) (by decide +kernel)
theorem qw_337 : Cond.code yW_duty prog_1_method_13_code 2 (Option.some Jvm.ClassFile.FieldType.int) ∈ wG := wG_mem (i := 337) (by decide +kernel) (by decide +kernel)
theorem qw_334 : Cond.methodLink "WallShiftsLaw" 60 yW_duty ∈ wG := wG_mem (i := 334) (by decide +kernel) (by decide +kernel)
theorem qw_335 : Cond.instanceMethod yW_duty ∈ wG := wG_mem (i := 335) (by decide +kernel) (by decide +kernel)
theorem qw_336 : Cond.selects yW_duty.cls yW_duty yW_duty ∈ wG := wG_mem (i := 336) (by decide +kernel) (by decide +kernel)
theorem qw_841 : Cond.code yM_duty prog_6_method_35_code 4 (Option.some Jvm.ClassFile.FieldType.int) ∈ wG := wG_mem (i := 841) (by decide +kernel) (by decide +kernel)
theorem qw_838 : Cond.methodLink "WallShiftsLaw" 63 yM_duty ∈ wG := wG_mem (i := 838) (by decide +kernel) (by decide +kernel)
theorem qw_839 : Cond.instanceMethod yM_duty ∈ wG := wG_mem (i := 839) (by decide +kernel) (by decide +kernel)
theorem qw_840 : Cond.selects yM_duty.cls yM_duty yM_duty ∈ wG := wG_mem (i := 840) (by decide +kernel) (by decide +kernel)
theorem qw_342 : Cond.code yW_now prog_1_method_14_code 2 (Option.some Jvm.ClassFile.FieldType.int) ∈ wG := wG_mem (i := 342) (by decide +kernel) (by decide +kernel)
theorem qw_339 : Cond.methodLink "WallShiftsLaw" 64 yW_now ∈ wG := wG_mem (i := 339) (by decide +kernel) (by decide +kernel)
theorem qw_340 : Cond.instanceMethod yW_now ∈ wG := wG_mem (i := 340) (by decide +kernel) (by decide +kernel)
theorem qw_341 : Cond.selects yW_now.cls yW_now yW_now ∈ wG := wG_mem (i := 341) (by decide +kernel) (by decide +kernel)
theorem qw_845 : Cond.code yM_now prog_6_method_38_code 2 (Option.some Jvm.ClassFile.FieldType.int) ∈ wG := wG_mem (i := 845) (by decide +kernel) (by decide +kernel)
theorem qw_842 : Cond.methodLink "WallShiftsLaw" 67 yM_now ∈ wG := wG_mem (i := 842) (by decide +kernel) (by decide +kernel)
theorem qw_843 : Cond.instanceMethod yM_now ∈ wG := wG_mem (i := 843) (by decide +kernel) (by decide +kernel)
theorem qw_844 : Cond.selects yM_now.cls yM_now yM_now ∈ wG := wG_mem (i := 844) (by decide +kernel) (by decide +kernel)
theorem qw_354 : Cond.code yW_filed prog_1_method_15_code 2 (Option.some Jvm.ClassFile.FieldType.int) ∈ wG := wG_mem (i := 354) (by decide +kernel) (by decide +kernel)
theorem qw_351 : Cond.methodLink "WallShiftsLaw" 68 yW_filed ∈ wG := wG_mem (i := 351) (by decide +kernel) (by decide +kernel)
theorem qw_352 : Cond.instanceMethod yW_filed ∈ wG := wG_mem (i := 352) (by decide +kernel) (by decide +kernel)
theorem qw_353 : Cond.selects yW_filed.cls yW_filed yW_filed ∈ wG := wG_mem (i := 353) (by decide +kernel) (by decide +kernel)
theorem qw_857 : Cond.code yM_filed prog_6_method_39_code 4 (Option.some Jvm.ClassFile.FieldType.int) ∈ wG := wG_mem (i := 857) (by decide +kernel) (by decide +kernel)
theorem qw_854 : Cond.methodLink "WallShiftsLaw" 71 yM_filed ∈ wG := wG_mem (i := 854) (by decide +kernel) (by decide +kernel)
theorem qw_855 : Cond.instanceMethod yM_filed ∈ wG := wG_mem (i := 855) (by decide +kernel) (by decide +kernel)
theorem qw_856 : Cond.selects yM_filed.cls yM_filed yM_filed ∈ wG := wG_mem (i := 856) (by decide +kernel) (by decide +kernel)
theorem qw_362 : Cond.code yW_safe prog_1_method_16_code 4 (Option.some Jvm.ClassFile.FieldType.int) ∈ wG := wG_mem (i := 362) (by decide +kernel) (by decide +kernel)
theorem qw_359 : Cond.methodLink "WallShiftsLaw" 72 yW_safe ∈ wG := wG_mem (i := 359) (by decide +kernel) (by decide +kernel)
theorem qw_360 : Cond.instanceMethod yW_safe ∈ wG := wG_mem (i := 360) (by decide +kernel) (by decide +kernel)
theorem qw_361 : Cond.selects yW_safe.cls yW_safe yW_safe ∈ wG := wG_mem (i := 361) (by decide +kernel) (by decide +kernel)
theorem qw_861 : Cond.code yM_safe prog_6_method_42_code 4 (Option.some Jvm.ClassFile.FieldType.int) ∈ wG := wG_mem (i := 861) (by decide +kernel) (by decide +kernel)
theorem qw_858 : Cond.methodLink "WallShiftsLaw" 75 yM_safe ∈ wG := wG_mem (i := 858) (by decide +kernel) (by decide +kernel)
theorem qw_859 : Cond.instanceMethod yM_safe ∈ wG := wG_mem (i := 859) (by decide +kernel) (by decide +kernel)
theorem qw_860 : Cond.selects yM_safe.cls yM_safe yM_safe ∈ wG := wG_mem (i := 860) (by decide +kernel) (by decide +kernel)
theorem qw_374 : Cond.code yW_where prog_1_method_17_code 6 (Option.some Jvm.ClassFile.FieldType.int) ∈ wG := wG_mem (i := 374) (by decide +kernel) (by decide +kernel)
theorem qw_371 : Cond.methodLink "WallShiftsLaw" 76 yW_where ∈ wG := wG_mem (i := 371) (by decide +kernel) (by decide +kernel)
theorem qw_372 : Cond.instanceMethod yW_where ∈ wG := wG_mem (i := 372) (by decide +kernel) (by decide +kernel)
theorem qw_373 : Cond.selects yW_where.cls yW_where yW_where ∈ wG := wG_mem (i := 373) (by decide +kernel) (by decide +kernel)
theorem qw_873 : Cond.code yM_where prog_6_method_43_code 6 (Option.some Jvm.ClassFile.FieldType.int) ∈ wG := wG_mem (i := 873) (by decide +kernel) (by decide +kernel)
theorem qw_870 : Cond.methodLink "WallShiftsLaw" 79 yM_where ∈ wG := wG_mem (i := 870) (by decide +kernel) (by decide +kernel)
theorem qw_871 : Cond.instanceMethod yM_where ∈ wG := wG_mem (i := 871) (by decide +kernel) (by decide +kernel)
theorem qw_872 : Cond.selects yM_where.cls yM_where yM_where ∈ wG := wG_mem (i := 872) (by decide +kernel) (by decide +kernel)
theorem qw_378 : Cond.code yW_quiet prog_1_method_18_code 3 (Option.some Jvm.ClassFile.FieldType.int) ∈ wG := wG_mem (i := 378) (by decide +kernel) (by decide +kernel)
theorem qw_375 : Cond.methodLink "WallShiftsLaw" 80 yW_quiet ∈ wG := wG_mem (i := 375) (by decide +kernel) (by decide +kernel)
theorem qw_376 : Cond.instanceMethod yW_quiet ∈ wG := wG_mem (i := 376) (by decide +kernel) (by decide +kernel)
theorem qw_377 : Cond.selects yW_quiet.cls yW_quiet yW_quiet ∈ wG := wG_mem (i := 377) (by decide +kernel) (by decide +kernel)
theorem qw_877 : Cond.code yM_quiet prog_6_method_45_code 3 (Option.some Jvm.ClassFile.FieldType.int) ∈ wG := wG_mem (i := 877) (by decide +kernel) (by decide +kernel)
theorem qw_874 : Cond.methodLink "WallShiftsLaw" 83 yM_quiet ∈ wG := wG_mem (i := 874) (by decide +kernel) (by decide +kernel)
theorem qw_875 : Cond.instanceMethod yM_quiet ∈ wG := wG_mem (i := 875) (by decide +kernel) (by decide +kernel)
theorem qw_876 : Cond.selects yM_quiet.cls yM_quiet yM_quiet ∈ wG := wG_mem (i := 876) (by decide +kernel) (by decide +kernel)
theorem qw_386 : Cond.code yW_worst prog_1_method_19_code 8 (Option.some Jvm.ClassFile.FieldType.int) ∈ wG := wG_mem (i := 386) (by decide +kernel) (by decide +kernel)
theorem qw_383 : Cond.methodLink "WallShiftsLaw" 84 yW_worst ∈ wG := wG_mem (i := 383) (by decide +kernel) (by decide +kernel)
theorem qw_384 : Cond.instanceMethod yW_worst ∈ wG := wG_mem (i := 384) (by decide +kernel) (by decide +kernel)
theorem qw_385 : Cond.selects yW_worst.cls yW_worst yW_worst ∈ wG := wG_mem (i := 385) (by decide +kernel) (by decide +kernel)
theorem qw_885 : Cond.code yM_worst prog_6_method_46_code 7 (Option.some Jvm.ClassFile.FieldType.int) ∈ wG := wG_mem (i := 885) (by decide +kernel) (by decide +kernel)
theorem qw_882 : Cond.methodLink "WallShiftsLaw" 87 yM_worst ∈ wG := wG_mem (i := 882) (by decide +kernel) (by decide +kernel)
theorem qw_883 : Cond.instanceMethod yM_worst ∈ wG := wG_mem (i := 883) (by decide +kernel) (by decide +kernel)
theorem qw_884 : Cond.selects yM_worst.cls yM_worst yM_worst ∈ wG := wG_mem (i := 884) (by decide +kernel) (by decide +kernel)
theorem qw_394 : Cond.code yW_cover prog_1_method_20_code 7 (Option.some Jvm.ClassFile.FieldType.int) ∈ wG := wG_mem (i := 394) (by decide +kernel) (by decide +kernel)
theorem qw_391 : Cond.methodLink "WallShiftsLaw" 88 yW_cover ∈ wG := wG_mem (i := 391) (by decide +kernel) (by decide +kernel)
theorem qw_392 : Cond.instanceMethod yW_cover ∈ wG := wG_mem (i := 392) (by decide +kernel) (by decide +kernel)
theorem qw_393 : Cond.selects yW_cover.cls yW_cover yW_cover ∈ wG := wG_mem (i := 393) (by decide +kernel) (by decide +kernel)
theorem qw_889 : Cond.code yM_cover prog_6_method_47_code 5 (Option.some Jvm.ClassFile.FieldType.int) ∈ wG := wG_mem (i := 889) (by decide +kernel) (by decide +kernel)
theorem qw_886 : Cond.methodLink "WallShiftsLaw" 91 yM_cover ∈ wG := wG_mem (i := 886) (by decide +kernel) (by decide +kernel)
theorem qw_887 : Cond.instanceMethod yM_cover ∈ wG := wG_mem (i := 887) (by decide +kernel) (by decide +kernel)
theorem qw_888 : Cond.selects yM_cover.cls yM_cover yM_cover ∈ wG := wG_mem (i := 888) (by decide +kernel) (by decide +kernel)
theorem qw_402 : Cond.code yW_shift prog_1_method_21_code 8 (Option.some Jvm.ClassFile.FieldType.int) ∈ wG := wG_mem (i := 402) (by decide +kernel) (by decide +kernel)
theorem qw_399 : Cond.methodLink "WallShiftsLaw" 92 yW_shift ∈ wG := wG_mem (i := 399) (by decide +kernel) (by decide +kernel)
theorem qw_400 : Cond.instanceMethod yW_shift ∈ wG := wG_mem (i := 400) (by decide +kernel) (by decide +kernel)
theorem qw_401 : Cond.selects yW_shift.cls yW_shift yW_shift ∈ wG := wG_mem (i := 401) (by decide +kernel) (by decide +kernel)
theorem qw_893 : Cond.code yM_shift prog_6_method_48_code 8 (Option.some Jvm.ClassFile.FieldType.int) ∈ wG := wG_mem (i := 893) (by decide +kernel) (by decide +kernel)
theorem qw_890 : Cond.methodLink "WallShiftsLaw" 95 yM_shift ∈ wG := wG_mem (i := 890) (by decide +kernel) (by decide +kernel)
theorem qw_891 : Cond.instanceMethod yM_shift ∈ wG := wG_mem (i := 891) (by decide +kernel) (by decide +kernel)
theorem qw_892 : Cond.selects yM_shift.cls yM_shift yM_shift ∈ wG := wG_mem (i := 892) (by decide +kernel) (by decide +kernel)
theorem qw_406 : Cond.code yW_side prog_1_method_22_code 9 (Option.some Jvm.ClassFile.FieldType.int) ∈ wG := wG_mem (i := 406) (by decide +kernel) (by decide +kernel)
theorem qw_403 : Cond.methodLink "WallShiftsLaw" 96 yW_side ∈ wG := wG_mem (i := 403) (by decide +kernel) (by decide +kernel)
theorem qw_404 : Cond.instanceMethod yW_side ∈ wG := wG_mem (i := 404) (by decide +kernel) (by decide +kernel)
theorem qw_405 : Cond.selects yW_side.cls yW_side yW_side ∈ wG := wG_mem (i := 405) (by decide +kernel) (by decide +kernel)
theorem qw_897 : Cond.code yM_side prog_6_method_49_code 9 (Option.some Jvm.ClassFile.FieldType.int) ∈ wG := wG_mem (i := 897) (by decide +kernel) (by decide +kernel)
theorem qw_894 : Cond.methodLink "WallShiftsLaw" 99 yM_side ∈ wG := wG_mem (i := 894) (by decide +kernel) (by decide +kernel)
theorem qw_895 : Cond.instanceMethod yM_side ∈ wG := wG_mem (i := 895) (by decide +kernel) (by decide +kernel)
theorem qw_896 : Cond.selects yM_side.cls yM_side yM_side ∈ wG := wG_mem (i := 896) (by decide +kernel) (by decide +kernel)
theorem qw_417 : Cond.code yW_lost prog_1_method_23_code 3 (Option.some Jvm.ClassFile.FieldType.int) ∈ wG := wG_mem (i := 417) (by decide +kernel) (by decide +kernel)
theorem qw_414 : Cond.methodLink "WallShiftsLaw" 100 yW_lost ∈ wG := wG_mem (i := 414) (by decide +kernel) (by decide +kernel)
theorem qw_415 : Cond.instanceMethod yW_lost ∈ wG := wG_mem (i := 415) (by decide +kernel) (by decide +kernel)
theorem qw_416 : Cond.selects yW_lost.cls yW_lost yW_lost ∈ wG := wG_mem (i := 416) (by decide +kernel) (by decide +kernel)
theorem qw_901 : Cond.code yM_lost prog_6_method_50_code 4 (Option.some Jvm.ClassFile.FieldType.int) ∈ wG := wG_mem (i := 901) (by decide +kernel) (by decide +kernel)
theorem qw_898 : Cond.methodLink "WallShiftsLaw" 103 yM_lost ∈ wG := wG_mem (i := 898) (by decide +kernel) (by decide +kernel)
theorem qw_899 : Cond.instanceMethod yM_lost ∈ wG := wG_mem (i := 899) (by decide +kernel) (by decide +kernel)
theorem qw_900 : Cond.selects yM_lost.cls yM_lost yM_lost ∈ wG := wG_mem (i := 900) (by decide +kernel) (by decide +kernel)
theorem qw_421 : Cond.code yW_best prog_1_method_24_code 6 (Option.some Jvm.ClassFile.FieldType.int) ∈ wG := wG_mem (i := 421) (by decide +kernel) (by decide +kernel)
theorem qw_418 : Cond.methodLink "WallShiftsLaw" 104 yW_best ∈ wG := wG_mem (i := 418) (by decide +kernel) (by decide +kernel)
theorem qw_419 : Cond.instanceMethod yW_best ∈ wG := wG_mem (i := 419) (by decide +kernel) (by decide +kernel)
theorem qw_420 : Cond.selects yW_best.cls yW_best yW_best ∈ wG := wG_mem (i := 420) (by decide +kernel) (by decide +kernel)
theorem qw_909 : Cond.code yM_best prog_6_method_51_code 6 (Option.some Jvm.ClassFile.FieldType.int) ∈ wG := wG_mem (i := 909) (by decide +kernel) (by decide +kernel)
theorem qw_906 : Cond.methodLink "WallShiftsLaw" 107 yM_best ∈ wG := wG_mem (i := 906) (by decide +kernel) (by decide +kernel)
theorem qw_907 : Cond.instanceMethod yM_best ∈ wG := wG_mem (i := 907) (by decide +kernel) (by decide +kernel)
theorem qw_908 : Cond.selects yM_best.cls yM_best yM_best ∈ wG := wG_mem (i := 908) (by decide +kernel) (by decide +kernel)
theorem qw_425 : Cond.code yW_feed prog_1_method_25_code 4 (Option.some Jvm.ClassFile.FieldType.int) ∈ wG := wG_mem (i := 425) (by decide +kernel) (by decide +kernel)
theorem qw_422 : Cond.methodLink "WallShiftsLaw" 108 yW_feed ∈ wG := wG_mem (i := 422) (by decide +kernel) (by decide +kernel)
theorem qw_423 : Cond.instanceMethod yW_feed ∈ wG := wG_mem (i := 423) (by decide +kernel) (by decide +kernel)
theorem qw_424 : Cond.selects yW_feed.cls yW_feed yW_feed ∈ wG := wG_mem (i := 424) (by decide +kernel) (by decide +kernel)
theorem qw_913 : Cond.code yM_feed prog_6_method_52_code 4 (Option.some Jvm.ClassFile.FieldType.int) ∈ wG := wG_mem (i := 913) (by decide +kernel) (by decide +kernel)
theorem qw_910 : Cond.methodLink "WallShiftsLaw" 111 yM_feed ∈ wG := wG_mem (i := 910) (by decide +kernel) (by decide +kernel)
theorem qw_911 : Cond.instanceMethod yM_feed ∈ wG := wG_mem (i := 911) (by decide +kernel) (by decide +kernel)
theorem qw_912 : Cond.selects yM_feed.cls yM_feed yM_feed ∈ wG := wG_mem (i := 912) (by decide +kernel) (by decide +kernel)
theorem qw_433 : Cond.code yW_wipe prog_1_method_26_code 1 (Option.some Jvm.ClassFile.FieldType.int) ∈ wG := wG_mem (i := 433) (by decide +kernel) (by decide +kernel)
theorem qw_430 : Cond.methodLink "WallShiftsLaw" 112 yW_wipe ∈ wG := wG_mem (i := 430) (by decide +kernel) (by decide +kernel)
theorem qw_431 : Cond.instanceMethod yW_wipe ∈ wG := wG_mem (i := 431) (by decide +kernel) (by decide +kernel)
theorem qw_432 : Cond.selects yW_wipe.cls yW_wipe yW_wipe ∈ wG := wG_mem (i := 432) (by decide +kernel) (by decide +kernel)
theorem qw_917 : Cond.code yM_wipe prog_6_method_53_code 2 (Option.some Jvm.ClassFile.FieldType.int) ∈ wG := wG_mem (i := 917) (by decide +kernel) (by decide +kernel)
theorem qw_914 : Cond.methodLink "WallShiftsLaw" 116 yM_wipe ∈ wG := wG_mem (i := 914) (by decide +kernel) (by decide +kernel)
theorem qw_915 : Cond.instanceMethod yM_wipe ∈ wG := wG_mem (i := 915) (by decide +kernel) (by decide +kernel)
theorem qw_916 : Cond.selects yM_wipe.cls yM_wipe yM_wipe ∈ wG := wG_mem (i := 916) (by decide +kernel) (by decide +kernel)
theorem qw_441 : Cond.code yW_palace prog_1_method_27_code 2 (Option.some Jvm.ClassFile.FieldType.int) ∈ wG := wG_mem (i := 441) (by decide +kernel) (by decide +kernel)
theorem qw_438 : Cond.methodLink "WallShiftsLaw" 117 yW_palace ∈ wG := wG_mem (i := 438) (by decide +kernel) (by decide +kernel)
theorem qw_439 : Cond.instanceMethod yW_palace ∈ wG := wG_mem (i := 439) (by decide +kernel) (by decide +kernel)
theorem qw_440 : Cond.selects yW_palace.cls yW_palace yW_palace ∈ wG := wG_mem (i := 440) (by decide +kernel) (by decide +kernel)
theorem qw_921 : Cond.code yM_palace prog_6_method_65_code 3 (Option.some Jvm.ClassFile.FieldType.int) ∈ wG := wG_mem (i := 921) (by decide +kernel) (by decide +kernel)
theorem qw_918 : Cond.methodLink "WallShiftsLaw" 120 yM_palace ∈ wG := wG_mem (i := 918) (by decide +kernel) (by decide +kernel)
theorem qw_919 : Cond.instanceMethod yM_palace ∈ wG := wG_mem (i := 919) (by decide +kernel) (by decide +kernel)
theorem qw_920 : Cond.selects yM_palace.cls yM_palace yM_palace ∈ wG := wG_mem (i := 920) (by decide +kernel) (by decide +kernel)
theorem qw_560 : Cond.code yW_sheet prog_1_method_28_code 4 (Option.some Jvm.ClassFile.FieldType.int) ∈ wG := wG_mem (i := 560) (by decide +kernel) (by decide +kernel)
theorem qw_557 : Cond.methodLink "WallShiftsLaw" 121 yW_sheet ∈ wG := wG_mem (i := 557) (by decide +kernel) (by decide +kernel)
theorem qw_558 : Cond.instanceMethod yW_sheet ∈ wG := wG_mem (i := 558) (by decide +kernel) (by decide +kernel)
theorem qw_559 : Cond.selects yW_sheet.cls yW_sheet yW_sheet ∈ wG := wG_mem (i := 559) (by decide +kernel) (by decide +kernel)
theorem qw_982 : Cond.code yM_sheet prog_6_method_68_code 5 (Option.some Jvm.ClassFile.FieldType.int) ∈ wG := wG_mem (i := 982) (by decide +kernel) (by decide +kernel)
theorem qw_979 : Cond.methodLink "WallShiftsLaw" 124 yM_sheet ∈ wG := wG_mem (i := 979) (by decide +kernel) (by decide +kernel)
theorem qw_980 : Cond.instanceMethod yM_sheet ∈ wG := wG_mem (i := 980) (by decide +kernel) (by decide +kernel)
theorem qw_981 : Cond.selects yM_sheet.cls yM_sheet yM_sheet ∈ wG := wG_mem (i := 981) (by decide +kernel) (by decide +kernel)
theorem qw_1044 : Cond.constantLong "WallShiftsLaw" 125 (4294967295 : Int64) ∈ wG := wG_mem (i := 1044) (by decide +kernel) (by decide +kernel)
theorem qw_575 : Cond.code yW_write prog_1_method_29_code 7 (Option.some Jvm.ClassFile.FieldType.long) ∈ wG := wG_mem (i := 575) (by decide +kernel) (by decide +kernel)
theorem qw_572 : Cond.methodLink "WallShiftsLaw" 127 yW_write ∈ wG := wG_mem (i := 572) (by decide +kernel) (by decide +kernel)
theorem qw_573 : Cond.instanceMethod yW_write ∈ wG := wG_mem (i := 573) (by decide +kernel) (by decide +kernel)
theorem qw_574 : Cond.selects yW_write.cls yW_write yW_write ∈ wG := wG_mem (i := 574) (by decide +kernel) (by decide +kernel)
theorem qw_990 : Cond.code yM_write prog_6_method_69_code 7 (Option.some Jvm.ClassFile.FieldType.long) ∈ wG := wG_mem (i := 990) (by decide +kernel) (by decide +kernel)
theorem qw_987 : Cond.methodLink "WallShiftsLaw" 131 yM_write ∈ wG := wG_mem (i := 987) (by decide +kernel) (by decide +kernel)
theorem qw_988 : Cond.instanceMethod yM_write ∈ wG := wG_mem (i := 988) (by decide +kernel) (by decide +kernel)
theorem qw_989 : Cond.selects yM_write.cls yM_write yM_write ∈ wG := wG_mem (i := 989) (by decide +kernel) (by decide +kernel)
theorem qw_588 : Cond.code yW_copy prog_1_method_30_code 8 (Option.some Jvm.ClassFile.FieldType.int) ∈ wG := wG_mem (i := 588) (by decide +kernel) (by decide +kernel)
theorem qw_585 : Cond.methodLink "WallShiftsLaw" 132 yW_copy ∈ wG := wG_mem (i := 585) (by decide +kernel) (by decide +kernel)
theorem qw_586 : Cond.instanceMethod yW_copy ∈ wG := wG_mem (i := 586) (by decide +kernel) (by decide +kernel)
theorem qw_587 : Cond.selects yW_copy.cls yW_copy yW_copy ∈ wG := wG_mem (i := 587) (by decide +kernel) (by decide +kernel)
theorem qw_998 : Cond.code yM_copy prog_6_method_71_code 7 (Option.some Jvm.ClassFile.FieldType.int) ∈ wG := wG_mem (i := 998) (by decide +kernel) (by decide +kernel)
theorem qw_995 : Cond.methodLink "WallShiftsLaw" 136 yM_copy ∈ wG := wG_mem (i := 995) (by decide +kernel) (by decide +kernel)
theorem qw_996 : Cond.instanceMethod yM_copy ∈ wG := wG_mem (i := 996) (by decide +kernel) (by decide +kernel)
theorem qw_997 : Cond.selects yM_copy.cls yM_copy yM_copy ∈ wG := wG_mem (i := 997) (by decide +kernel) (by decide +kernel)
theorem qw_597 : Cond.code yW_lays prog_1_method_31_code 7 (Option.some Jvm.ClassFile.FieldType.int) ∈ wG := wG_mem (i := 597) (by decide +kernel) (by decide +kernel)
theorem qw_594 : Cond.methodLink "WallShiftsLaw" 137 yW_lays ∈ wG := wG_mem (i := 594) (by decide +kernel) (by decide +kernel)
theorem qw_595 : Cond.instanceMethod yW_lays ∈ wG := wG_mem (i := 595) (by decide +kernel) (by decide +kernel)
theorem qw_596 : Cond.selects yW_lays.cls yW_lays yW_lays ∈ wG := wG_mem (i := 596) (by decide +kernel) (by decide +kernel)
theorem qw_1006 : Cond.code yM_lays prog_6_method_73_code 7 (Option.some Jvm.ClassFile.FieldType.int) ∈ wG := wG_mem (i := 1006) (by decide +kernel) (by decide +kernel)
theorem qw_1003 : Cond.methodLink "WallShiftsLaw" 140 yM_lays ∈ wG := wG_mem (i := 1003) (by decide +kernel) (by decide +kernel)
theorem qw_1004 : Cond.instanceMethod yM_lays ∈ wG := wG_mem (i := 1004) (by decide +kernel) (by decide +kernel)
theorem qw_1005 : Cond.selects yM_lays.cls yM_lays yM_lays ∈ wG := wG_mem (i := 1005) (by decide +kernel) (by decide +kernel)
theorem qw_602 : Cond.code yW_book prog_1_method_32_code 5 (Option.some Jvm.ClassFile.FieldType.int) ∈ wG := wG_mem (i := 602) (by decide +kernel) (by decide +kernel)
theorem qw_599 : Cond.methodLink "WallShiftsLaw" 141 yW_book ∈ wG := wG_mem (i := 599) (by decide +kernel) (by decide +kernel)
theorem qw_600 : Cond.instanceMethod yW_book ∈ wG := wG_mem (i := 600) (by decide +kernel) (by decide +kernel)
theorem qw_601 : Cond.selects yW_book.cls yW_book yW_book ∈ wG := wG_mem (i := 601) (by decide +kernel) (by decide +kernel)
theorem qw_1015 : Cond.code yM_book prog_6_method_74_code 5 (Option.some Jvm.ClassFile.FieldType.int) ∈ wG := wG_mem (i := 1015) (by decide +kernel) (by decide +kernel)
theorem qw_1012 : Cond.methodLink "WallShiftsLaw" 144 yM_book ∈ wG := wG_mem (i := 1012) (by decide +kernel) (by decide +kernel)
theorem qw_1013 : Cond.instanceMethod yM_book ∈ wG := wG_mem (i := 1013) (by decide +kernel) (by decide +kernel)
theorem qw_1014 : Cond.selects yM_book.cls yM_book yM_book ∈ wG := wG_mem (i := 1014) (by decide +kernel) (by decide +kernel)
theorem qw_606 : Cond.code yW_read prog_1_method_33_code 7 (Option.some Jvm.ClassFile.FieldType.int) ∈ wG := wG_mem (i := 606) (by decide +kernel) (by decide +kernel)
theorem qw_603 : Cond.methodLink "WallShiftsLaw" 145 yW_read ∈ wG := wG_mem (i := 603) (by decide +kernel) (by decide +kernel)
theorem qw_604 : Cond.instanceMethod yW_read ∈ wG := wG_mem (i := 604) (by decide +kernel) (by decide +kernel)
theorem qw_605 : Cond.selects yW_read.cls yW_read yW_read ∈ wG := wG_mem (i := 605) (by decide +kernel) (by decide +kernel)
theorem qw_1019 : Cond.code yM_read prog_6_method_76_code 8 (Option.some Jvm.ClassFile.FieldType.int) ∈ wG := wG_mem (i := 1019) (by decide +kernel) (by decide +kernel)
theorem qw_1016 : Cond.methodLink "WallShiftsLaw" 148 yM_read ∈ wG := wG_mem (i := 1016) (by decide +kernel) (by decide +kernel)
theorem qw_1017 : Cond.instanceMethod yM_read ∈ wG := wG_mem (i := 1017) (by decide +kernel) (by decide +kernel)
theorem qw_1018 : Cond.selects yM_read.cls yM_read yM_read ∈ wG := wG_mem (i := 1018) (by decide +kernel) (by decide +kernel)
theorem qw_617 : Cond.code yW_image prog_1_method_34_code 1 (Option.some Jvm.ClassFile.FieldType.int) ∈ wG := wG_mem (i := 617) (by decide +kernel) (by decide +kernel)
theorem qw_614 : Cond.methodLink "WallShiftsLaw" 149 yW_image ∈ wG := wG_mem (i := 614) (by decide +kernel) (by decide +kernel)
theorem qw_615 : Cond.instanceMethod yW_image ∈ wG := wG_mem (i := 615) (by decide +kernel) (by decide +kernel)
theorem qw_616 : Cond.selects yW_image.cls yW_image yW_image ∈ wG := wG_mem (i := 616) (by decide +kernel) (by decide +kernel)
theorem qw_1027 : Cond.code yM_image prog_6_method_78_code 1 (Option.some Jvm.ClassFile.FieldType.int) ∈ wG := wG_mem (i := 1027) (by decide +kernel) (by decide +kernel)
theorem qw_1024 : Cond.methodLink "WallShiftsLaw" 152 yM_image ∈ wG := wG_mem (i := 1024) (by decide +kernel) (by decide +kernel)
theorem qw_1025 : Cond.instanceMethod yM_image ∈ wG := wG_mem (i := 1025) (by decide +kernel) (by decide +kernel)
theorem qw_1026 : Cond.selects yM_image.cls yM_image yM_image ∈ wG := wG_mem (i := 1026) (by decide +kernel) (by decide +kernel)
theorem qw_621 : Cond.code yW_undo prog_1_method_35_code 1 (Option.some Jvm.ClassFile.FieldType.int) ∈ wG := wG_mem (i := 621) (by decide +kernel) (by decide +kernel)
theorem qw_618 : Cond.methodLink "WallShiftsLaw" 153 yW_undo ∈ wG := wG_mem (i := 618) (by decide +kernel) (by decide +kernel)
theorem qw_619 : Cond.instanceMethod yW_undo ∈ wG := wG_mem (i := 619) (by decide +kernel) (by decide +kernel)
theorem qw_620 : Cond.selects yW_undo.cls yW_undo yW_undo ∈ wG := wG_mem (i := 620) (by decide +kernel) (by decide +kernel)
theorem qw_1031 : Cond.code yM_undo prog_6_method_79_code 1 (Option.some Jvm.ClassFile.FieldType.int) ∈ wG := wG_mem (i := 1031) (by decide +kernel) (by decide +kernel)
theorem qw_1028 : Cond.methodLink "WallShiftsLaw" 156 yM_undo ∈ wG := wG_mem (i := 1028) (by decide +kernel) (by decide +kernel)
theorem qw_1029 : Cond.instanceMethod yM_undo ∈ wG := wG_mem (i := 1029) (by decide +kernel) (by decide +kernel)
theorem qw_1030 : Cond.selects yM_undo.cls yM_undo yM_undo ∈ wG := wG_mem (i := 1030) (by decide +kernel) (by decide +kernel)
theorem qw_625 : Cond.code yW_tear prog_1_method_36_code 2 (Option.some Jvm.ClassFile.FieldType.int) ∈ wG := wG_mem (i := 625) (by decide +kernel) (by decide +kernel)
theorem qw_622 : Cond.methodLink "WallShiftsLaw" 157 yW_tear ∈ wG := wG_mem (i := 622) (by decide +kernel) (by decide +kernel)
theorem qw_623 : Cond.instanceMethod yW_tear ∈ wG := wG_mem (i := 623) (by decide +kernel) (by decide +kernel)
theorem qw_624 : Cond.selects yW_tear.cls yW_tear yW_tear ∈ wG := wG_mem (i := 624) (by decide +kernel) (by decide +kernel)
theorem qw_1035 : Cond.code yM_tear prog_6_method_80_code 2 (Option.some Jvm.ClassFile.FieldType.int) ∈ wG := wG_mem (i := 1035) (by decide +kernel) (by decide +kernel)
theorem qw_1032 : Cond.methodLink "WallShiftsLaw" 160 yM_tear ∈ wG := wG_mem (i := 1032) (by decide +kernel) (by decide +kernel)
theorem qw_1033 : Cond.instanceMethod yM_tear ∈ wG := wG_mem (i := 1033) (by decide +kernel) (by decide +kernel)
theorem qw_1034 : Cond.selects yM_tear.cls yM_tear yM_tear ∈ wG := wG_mem (i := 1034) (by decide +kernel) (by decide +kernel)
theorem qw_629 : Cond.code yW_count prog_1_method_37_code 2 (Option.some Jvm.ClassFile.FieldType.int) ∈ wG := wG_mem (i := 629) (by decide +kernel) (by decide +kernel)
theorem qw_626 : Cond.methodLink "WallShiftsLaw" 161 yW_count ∈ wG := wG_mem (i := 626) (by decide +kernel) (by decide +kernel)
theorem qw_627 : Cond.instanceMethod yW_count ∈ wG := wG_mem (i := 627) (by decide +kernel) (by decide +kernel)
theorem qw_628 : Cond.selects yW_count.cls yW_count yW_count ∈ wG := wG_mem (i := 628) (by decide +kernel) (by decide +kernel)
theorem qw_1039 : Cond.code yM_count prog_6_method_81_code 4 (Option.some Jvm.ClassFile.FieldType.int) ∈ wG := wG_mem (i := 1039) (by decide +kernel) (by decide +kernel)
theorem qw_1036 : Cond.methodLink "WallShiftsLaw" 164 yM_count ∈ wG := wG_mem (i := 1036) (by decide +kernel) (by decide +kernel)
theorem qw_1037 : Cond.instanceMethod yM_count ∈ wG := wG_mem (i := 1037) (by decide +kernel) (by decide +kernel)
theorem qw_1038 : Cond.selects yM_count.cls yM_count yM_count ∈ wG := wG_mem (i := 1038) (by decide +kernel) (by decide +kernel)
theorem qw_641 : Cond.code yW_status prog_1_method_38_code 4 (Option.some Jvm.ClassFile.FieldType.int) ∈ wG := wG_mem (i := 641) (by decide +kernel) (by decide +kernel)
theorem qw_638 : Cond.methodLink "WallShiftsLaw" 165 yW_status ∈ wG := wG_mem (i := 638) (by decide +kernel) (by decide +kernel)
theorem qw_639 : Cond.instanceMethod yW_status ∈ wG := wG_mem (i := 639) (by decide +kernel) (by decide +kernel)
theorem qw_640 : Cond.selects yW_status.cls yW_status yW_status ∈ wG := wG_mem (i := 640) (by decide +kernel) (by decide +kernel)
theorem qw_1043 : Cond.code yM_status prog_6_method_82_code 4 (Option.some Jvm.ClassFile.FieldType.int) ∈ wG := wG_mem (i := 1043) (by decide +kernel) (by decide +kernel)
theorem qw_1040 : Cond.methodLink "WallShiftsLaw" 168 yM_status ∈ wG := wG_mem (i := 1040) (by decide +kernel) (by decide +kernel)
theorem qw_1041 : Cond.instanceMethod yM_status ∈ wG := wG_mem (i := 1041) (by decide +kernel) (by decide +kernel)
theorem qw_1042 : Cond.selects yM_status.cls yM_status yM_status ∈ wG := wG_mem (i := 1042) (by decide +kernel) (by decide +kernel)
theorem ok_V_L_13 : okV "WallShiftsLaw" 13 yW_rota prog_1_method_2_code 4 (Option.some Jvm.ClassFile.FieldType.int) 2 := okV_of qw_165 qw_166 qw_167 qw_41 qw_168 ⟨by decide +kernel, by decide +kernel, by decide +kernel⟩
theorem ok_V_L_17 : okV "WallShiftsLaw" 17 yM_rota prog_6_method_20_code 4 (Option.some Jvm.ClassFile.FieldType.int) 2 := okV_of qw_706 qw_707 qw_708 qw_45 qw_709 ⟨by decide +kernel, by decide +kernel, by decide +kernel⟩
theorem ok_V_L_18 : okV "WallShiftsLaw" 18 yW_wall prog_1_method_3_code 4 (Option.some Jvm.ClassFile.FieldType.int) 3 := okV_of qw_184 qw_185 qw_186 qw_41 qw_187 ⟨by decide +kernel, by decide +kernel, by decide +kernel⟩
theorem ok_V_L_22 : okV "WallShiftsLaw" 22 yM_wall prog_6_method_22_code 4 (Option.some Jvm.ClassFile.FieldType.int) 3 := okV_of qw_722 qw_723 qw_724 qw_45 qw_725 ⟨by decide +kernel, by decide +kernel, by decide +kernel⟩
theorem ok_V_L_23 : okV "WallShiftsLaw" 23 yW_of prog_1_method_4_code 4 (Option.some Jvm.ClassFile.FieldType.int) 2 := okV_of qw_203 qw_204 qw_205 qw_41 qw_206 ⟨by decide +kernel, by decide +kernel, by decide +kernel⟩
theorem ok_V_L_26 : okV "WallShiftsLaw" 26 yM_of prog_6_method_23_code 3 (Option.some Jvm.ClassFile.FieldType.int) 2 := okV_of qw_741 qw_742 qw_743 qw_45 qw_744 ⟨by decide +kernel, by decide +kernel, by decide +kernel⟩
theorem ok_V_L_27 : okV "WallShiftsLaw" 27 yW_set prog_1_method_5_code 4 (Option.some Jvm.ClassFile.FieldType.int) 3 := okV_of qw_236 qw_237 qw_238 qw_41 qw_239 ⟨by decide +kernel, by decide +kernel, by decide +kernel⟩
theorem ok_V_L_30 : okV "WallShiftsLaw" 30 yM_set prog_6_method_24_code 5 (Option.some Jvm.ClassFile.FieldType.int) 3 := okV_of qw_765 qw_766 qw_767 qw_45 qw_768 ⟨by decide +kernel, by decide +kernel, by decide +kernel⟩
theorem ok_V_L_31 : okV "WallShiftsLaw" 31 yW_turn prog_1_method_6_code 3 (Option.some Jvm.ClassFile.FieldType.int) 2 := okV_of qw_246 qw_247 qw_248 qw_41 qw_249 ⟨by decide +kernel, by decide +kernel, by decide +kernel⟩
theorem ok_V_L_34 : okV "WallShiftsLaw" 34 yM_turn prog_6_method_25_code 3 (Option.some Jvm.ClassFile.FieldType.int) 2 := okV_of qw_770 qw_771 qw_772 qw_45 qw_773 ⟨by decide +kernel, by decide +kernel, by decide +kernel⟩
theorem ok_V_L_35 : okV "WallShiftsLaw" 35 yW_as prog_1_method_7_code 4 (Option.some Jvm.ClassFile.FieldType.int) 2 := okV_of qw_250 qw_251 qw_252 qw_41 qw_253 ⟨by decide +kernel, by decide +kernel, by decide +kernel⟩
theorem ok_V_L_38 : okV "WallShiftsLaw" 38 yM_as prog_6_method_26_code 5 (Option.some Jvm.ClassFile.FieldType.int) 2 := okV_of qw_774 qw_775 qw_776 qw_45 qw_777 ⟨by decide +kernel, by decide +kernel, by decide +kernel⟩
theorem ok_V_L_39 : okV "WallShiftsLaw" 39 yW_hears prog_1_method_8_code 4 (Option.some Jvm.ClassFile.FieldType.int) 2 := okV_of qw_260 qw_261 qw_262 qw_41 qw_263 ⟨by decide +kernel, by decide +kernel, by decide +kernel⟩
theorem ok_V_L_42 : okV "WallShiftsLaw" 42 yM_hears prog_6_method_27_code 4 (Option.some Jvm.ClassFile.FieldType.int) 2 := okV_of qw_779 qw_780 qw_781 qw_45 qw_782 ⟨by decide +kernel, by decide +kernel, by decide +kernel⟩
theorem ok_V_L_43 : okV "WallShiftsLaw" 43 yW_say prog_1_method_9_code 3 (Option.some Jvm.ClassFile.FieldType.int) 2 := okV_of qw_271 qw_272 qw_273 qw_41 qw_274 ⟨by decide +kernel, by decide +kernel, by decide +kernel⟩
theorem ok_V_L_46 : okV "WallShiftsLaw" 46 yM_say prog_6_method_29_code 3 (Option.some Jvm.ClassFile.FieldType.int) 2 := okV_of qw_791 qw_792 qw_793 qw_45 qw_794 ⟨by decide +kernel, by decide +kernel, by decide +kernel⟩
theorem ok_V_L_47 : okV "WallShiftsLaw" 47 yW_pass prog_1_method_10_code 3 (Option.some Jvm.ClassFile.FieldType.int) 1 := okV_of qw_297 qw_298 qw_299 qw_41 qw_300 ⟨by decide +kernel, by decide +kernel, by decide +kernel⟩
theorem ok_V_L_51 : okV "WallShiftsLaw" 51 yM_pass prog_6_method_31_code 3 (Option.some Jvm.ClassFile.FieldType.int) 1 := okV_of qw_813 qw_814 qw_815 qw_45 qw_816 ⟨by decide +kernel, by decide +kernel, by decide +kernel⟩
theorem ok_V_L_52 : okV "WallShiftsLaw" 52 yW_speak prog_1_method_11_code 3 (Option.some Jvm.ClassFile.FieldType.int) 2 := okV_of qw_307 qw_308 qw_309 qw_41 qw_310 ⟨by decide +kernel, by decide +kernel, by decide +kernel⟩
theorem ok_V_L_55 : okV "WallShiftsLaw" 55 yM_speak prog_6_method_33_code 3 (Option.some Jvm.ClassFile.FieldType.int) 2 := okV_of qw_823 qw_824 qw_825 qw_45 qw_826 ⟨by decide +kernel, by decide +kernel, by decide +kernel⟩
theorem ok_V_L_56 : okV "WallShiftsLaw" 56 yW_reach prog_1_method_12_code 2 (Option.some Jvm.ClassFile.FieldType.int) 1 := okV_of qw_329 qw_330 qw_331 qw_41 qw_332 ⟨by decide +kernel, by decide +kernel, by decide +kernel⟩
theorem ok_V_L_59 : okV "WallShiftsLaw" 59 yM_reach prog_6_method_34_code 2 (Option.some Jvm.ClassFile.FieldType.int) 1 := okV_of qw_834 qw_835 qw_836 qw_45 qw_837 ⟨by decide +kernel, by decide +kernel, by decide +kernel⟩
theorem ok_V_L_60 : okV "WallShiftsLaw" 60 yW_duty prog_1_method_13_code 2 (Option.some Jvm.ClassFile.FieldType.int) 1 := okV_of qw_334 qw_335 qw_336 qw_41 qw_337 ⟨by decide +kernel, by decide +kernel, by decide +kernel⟩
theorem ok_V_L_63 : okV "WallShiftsLaw" 63 yM_duty prog_6_method_35_code 4 (Option.some Jvm.ClassFile.FieldType.int) 1 := okV_of qw_838 qw_839 qw_840 qw_45 qw_841 ⟨by decide +kernel, by decide +kernel, by decide +kernel⟩
theorem ok_V_L_64 : okV "WallShiftsLaw" 64 yW_now prog_1_method_14_code 2 (Option.some Jvm.ClassFile.FieldType.int) 1 := okV_of qw_339 qw_340 qw_341 qw_41 qw_342 ⟨by decide +kernel, by decide +kernel, by decide +kernel⟩
theorem ok_V_L_67 : okV "WallShiftsLaw" 67 yM_now prog_6_method_38_code 2 (Option.some Jvm.ClassFile.FieldType.int) 1 := okV_of qw_842 qw_843 qw_844 qw_45 qw_845 ⟨by decide +kernel, by decide +kernel, by decide +kernel⟩
theorem ok_V_L_68 : okV "WallShiftsLaw" 68 yW_filed prog_1_method_15_code 2 (Option.some Jvm.ClassFile.FieldType.int) 1 := okV_of qw_351 qw_352 qw_353 qw_41 qw_354 ⟨by decide +kernel, by decide +kernel, by decide +kernel⟩
theorem ok_V_L_71 : okV "WallShiftsLaw" 71 yM_filed prog_6_method_39_code 4 (Option.some Jvm.ClassFile.FieldType.int) 1 := okV_of qw_854 qw_855 qw_856 qw_45 qw_857 ⟨by decide +kernel, by decide +kernel, by decide +kernel⟩
theorem ok_V_L_72 : okV "WallShiftsLaw" 72 yW_safe prog_1_method_16_code 4 (Option.some Jvm.ClassFile.FieldType.int) 2 := okV_of qw_359 qw_360 qw_361 qw_41 qw_362 ⟨by decide +kernel, by decide +kernel, by decide +kernel⟩
theorem ok_V_L_75 : okV "WallShiftsLaw" 75 yM_safe prog_6_method_42_code 4 (Option.some Jvm.ClassFile.FieldType.int) 2 := okV_of qw_858 qw_859 qw_860 qw_45 qw_861 ⟨by decide +kernel, by decide +kernel, by decide +kernel⟩
theorem ok_V_L_76 : okV "WallShiftsLaw" 76 yW_where prog_1_method_17_code 6 (Option.some Jvm.ClassFile.FieldType.int) 1 := okV_of qw_371 qw_372 qw_373 qw_41 qw_374 ⟨by decide +kernel, by decide +kernel, by decide +kernel⟩
theorem ok_V_L_79 : okV "WallShiftsLaw" 79 yM_where prog_6_method_43_code 6 (Option.some Jvm.ClassFile.FieldType.int) 1 := okV_of qw_870 qw_871 qw_872 qw_45 qw_873 ⟨by decide +kernel, by decide +kernel, by decide +kernel⟩
theorem ok_V_L_80 : okV "WallShiftsLaw" 80 yW_quiet prog_1_method_18_code 3 (Option.some Jvm.ClassFile.FieldType.int) 2 := okV_of qw_375 qw_376 qw_377 qw_41 qw_378 ⟨by decide +kernel, by decide +kernel, by decide +kernel⟩
theorem ok_V_L_83 : okV "WallShiftsLaw" 83 yM_quiet prog_6_method_45_code 3 (Option.some Jvm.ClassFile.FieldType.int) 2 := okV_of qw_874 qw_875 qw_876 qw_45 qw_877 ⟨by decide +kernel, by decide +kernel, by decide +kernel⟩
theorem ok_V_L_84 : okV "WallShiftsLaw" 84 yW_worst prog_1_method_19_code 8 (Option.some Jvm.ClassFile.FieldType.int) 2 := okV_of qw_383 qw_384 qw_385 qw_41 qw_386 ⟨by decide +kernel, by decide +kernel, by decide +kernel⟩
theorem ok_V_L_87 : okV "WallShiftsLaw" 87 yM_worst prog_6_method_46_code 7 (Option.some Jvm.ClassFile.FieldType.int) 2 := okV_of qw_882 qw_883 qw_884 qw_45 qw_885 ⟨by decide +kernel, by decide +kernel, by decide +kernel⟩
theorem ok_V_L_88 : okV "WallShiftsLaw" 88 yW_cover prog_1_method_20_code 7 (Option.some Jvm.ClassFile.FieldType.int) 2 := okV_of qw_391 qw_392 qw_393 qw_41 qw_394 ⟨by decide +kernel, by decide +kernel, by decide +kernel⟩
theorem ok_V_L_91 : okV "WallShiftsLaw" 91 yM_cover prog_6_method_47_code 5 (Option.some Jvm.ClassFile.FieldType.int) 2 := okV_of qw_886 qw_887 qw_888 qw_45 qw_889 ⟨by decide +kernel, by decide +kernel, by decide +kernel⟩
theorem ok_V_L_92 : okV "WallShiftsLaw" 92 yW_shift prog_1_method_21_code 8 (Option.some Jvm.ClassFile.FieldType.int) 2 := okV_of qw_399 qw_400 qw_401 qw_41 qw_402 ⟨by decide +kernel, by decide +kernel, by decide +kernel⟩
theorem ok_V_L_95 : okV "WallShiftsLaw" 95 yM_shift prog_6_method_48_code 8 (Option.some Jvm.ClassFile.FieldType.int) 2 := okV_of qw_890 qw_891 qw_892 qw_45 qw_893 ⟨by decide +kernel, by decide +kernel, by decide +kernel⟩
theorem ok_V_L_96 : okV "WallShiftsLaw" 96 yW_side prog_1_method_22_code 9 (Option.some Jvm.ClassFile.FieldType.int) 3 := okV_of qw_403 qw_404 qw_405 qw_41 qw_406 ⟨by decide +kernel, by decide +kernel, by decide +kernel⟩
theorem ok_V_L_99 : okV "WallShiftsLaw" 99 yM_side prog_6_method_49_code 9 (Option.some Jvm.ClassFile.FieldType.int) 3 := okV_of qw_894 qw_895 qw_896 qw_45 qw_897 ⟨by decide +kernel, by decide +kernel, by decide +kernel⟩
theorem ok_V_L_100 : okV "WallShiftsLaw" 100 yW_lost prog_1_method_23_code 3 (Option.some Jvm.ClassFile.FieldType.int) 2 := okV_of qw_414 qw_415 qw_416 qw_41 qw_417 ⟨by decide +kernel, by decide +kernel, by decide +kernel⟩
theorem ok_V_L_103 : okV "WallShiftsLaw" 103 yM_lost prog_6_method_50_code 4 (Option.some Jvm.ClassFile.FieldType.int) 2 := okV_of qw_898 qw_899 qw_900 qw_45 qw_901 ⟨by decide +kernel, by decide +kernel, by decide +kernel⟩
theorem ok_V_L_104 : okV "WallShiftsLaw" 104 yW_best prog_1_method_24_code 6 (Option.some Jvm.ClassFile.FieldType.int) 1 := okV_of qw_418 qw_419 qw_420 qw_41 qw_421 ⟨by decide +kernel, by decide +kernel, by decide +kernel⟩
theorem ok_V_L_107 : okV "WallShiftsLaw" 107 yM_best prog_6_method_51_code 6 (Option.some Jvm.ClassFile.FieldType.int) 1 := okV_of qw_906 qw_907 qw_908 qw_45 qw_909 ⟨by decide +kernel, by decide +kernel, by decide +kernel⟩
theorem ok_V_L_108 : okV "WallShiftsLaw" 108 yW_feed prog_1_method_25_code 4 (Option.some Jvm.ClassFile.FieldType.int) 2 := okV_of qw_422 qw_423 qw_424 qw_41 qw_425 ⟨by decide +kernel, by decide +kernel, by decide +kernel⟩
theorem ok_V_L_111 : okV "WallShiftsLaw" 111 yM_feed prog_6_method_52_code 4 (Option.some Jvm.ClassFile.FieldType.int) 2 := okV_of qw_910 qw_911 qw_912 qw_45 qw_913 ⟨by decide +kernel, by decide +kernel, by decide +kernel⟩
theorem ok_V_L_112 : okV "WallShiftsLaw" 112 yW_wipe prog_1_method_26_code 1 (Option.some Jvm.ClassFile.FieldType.int) 0 := okV_of qw_430 qw_431 qw_432 qw_41 qw_433 ⟨by decide +kernel, by decide +kernel, by decide +kernel⟩
theorem ok_V_L_116 : okV "WallShiftsLaw" 116 yM_wipe prog_6_method_53_code 2 (Option.some Jvm.ClassFile.FieldType.int) 0 := okV_of qw_914 qw_915 qw_916 qw_45 qw_917 ⟨by decide +kernel, by decide +kernel, by decide +kernel⟩
theorem ok_V_L_117 : okV "WallShiftsLaw" 117 yW_palace prog_1_method_27_code 2 (Option.some Jvm.ClassFile.FieldType.int) 0 := okV_of qw_438 qw_439 qw_440 qw_41 qw_441 ⟨by decide +kernel, by decide +kernel, by decide +kernel⟩
theorem ok_V_L_120 : okV "WallShiftsLaw" 120 yM_palace prog_6_method_65_code 3 (Option.some Jvm.ClassFile.FieldType.int) 0 := okV_of qw_918 qw_919 qw_920 qw_45 qw_921 ⟨by decide +kernel, by decide +kernel, by decide +kernel⟩
theorem ok_V_L_121 : okV "WallShiftsLaw" 121 yW_sheet prog_1_method_28_code 4 (Option.some Jvm.ClassFile.FieldType.int) 3 := okV_of qw_557 qw_558 qw_559 qw_41 qw_560 ⟨by decide +kernel, by decide +kernel, by decide +kernel⟩
theorem ok_V_L_124 : okV "WallShiftsLaw" 124 yM_sheet prog_6_method_68_code 5 (Option.some Jvm.ClassFile.FieldType.int) 3 := okV_of qw_979 qw_980 qw_981 qw_45 qw_982 ⟨by decide +kernel, by decide +kernel, by decide +kernel⟩
theorem ok_V_L_127 : okV "WallShiftsLaw" 127 yW_write prog_1_method_29_code 7 (Option.some Jvm.ClassFile.FieldType.long) 3 := okV_of qw_572 qw_573 qw_574 qw_41 qw_575 ⟨by decide +kernel, by decide +kernel, by decide +kernel⟩
theorem ok_V_L_131 : okV "WallShiftsLaw" 131 yM_write prog_6_method_69_code 7 (Option.some Jvm.ClassFile.FieldType.long) 3 := okV_of qw_987 qw_988 qw_989 qw_45 qw_990 ⟨by decide +kernel, by decide +kernel, by decide +kernel⟩
theorem ok_V_L_132 : okV "WallShiftsLaw" 132 yW_copy prog_1_method_30_code 8 (Option.some Jvm.ClassFile.FieldType.int) 5 := okV_of qw_585 qw_586 qw_587 qw_41 qw_588 ⟨by decide +kernel, by decide +kernel, by decide +kernel⟩
theorem ok_V_L_136 : okV "WallShiftsLaw" 136 yM_copy prog_6_method_71_code 7 (Option.some Jvm.ClassFile.FieldType.int) 5 := okV_of qw_995 qw_996 qw_997 qw_45 qw_998 ⟨by decide +kernel, by decide +kernel, by decide +kernel⟩
theorem ok_V_L_137 : okV "WallShiftsLaw" 137 yW_lays prog_1_method_31_code 7 (Option.some Jvm.ClassFile.FieldType.int) 1 := okV_of qw_594 qw_595 qw_596 qw_41 qw_597 ⟨by decide +kernel, by decide +kernel, by decide +kernel⟩
theorem ok_V_L_140 : okV "WallShiftsLaw" 140 yM_lays prog_6_method_73_code 7 (Option.some Jvm.ClassFile.FieldType.int) 1 := okV_of qw_1003 qw_1004 qw_1005 qw_45 qw_1006 ⟨by decide +kernel, by decide +kernel, by decide +kernel⟩
theorem ok_V_L_141 : okV "WallShiftsLaw" 141 yW_book prog_1_method_32_code 5 (Option.some Jvm.ClassFile.FieldType.int) 2 := okV_of qw_599 qw_600 qw_601 qw_41 qw_602 ⟨by decide +kernel, by decide +kernel, by decide +kernel⟩
theorem ok_V_L_144 : okV "WallShiftsLaw" 144 yM_book prog_6_method_74_code 5 (Option.some Jvm.ClassFile.FieldType.int) 2 := okV_of qw_1012 qw_1013 qw_1014 qw_45 qw_1015 ⟨by decide +kernel, by decide +kernel, by decide +kernel⟩
theorem ok_V_L_145 : okV "WallShiftsLaw" 145 yW_read prog_1_method_33_code 7 (Option.some Jvm.ClassFile.FieldType.int) 2 := okV_of qw_603 qw_604 qw_605 qw_41 qw_606 ⟨by decide +kernel, by decide +kernel, by decide +kernel⟩
theorem ok_V_L_148 : okV "WallShiftsLaw" 148 yM_read prog_6_method_76_code 8 (Option.some Jvm.ClassFile.FieldType.int) 2 := okV_of qw_1016 qw_1017 qw_1018 qw_45 qw_1019 ⟨by decide +kernel, by decide +kernel, by decide +kernel⟩
theorem ok_V_L_149 : okV "WallShiftsLaw" 149 yW_image prog_1_method_34_code 1 (Option.some Jvm.ClassFile.FieldType.int) 0 := okV_of qw_614 qw_615 qw_616 qw_41 qw_617 ⟨by decide +kernel, by decide +kernel, by decide +kernel⟩
theorem ok_V_L_152 : okV "WallShiftsLaw" 152 yM_image prog_6_method_78_code 1 (Option.some Jvm.ClassFile.FieldType.int) 0 := okV_of qw_1024 qw_1025 qw_1026 qw_45 qw_1027 ⟨by decide +kernel, by decide +kernel, by decide +kernel⟩
theorem ok_V_L_153 : okV "WallShiftsLaw" 153 yW_undo prog_1_method_35_code 1 (Option.some Jvm.ClassFile.FieldType.int) 0 := okV_of qw_618 qw_619 qw_620 qw_41 qw_621 ⟨by decide +kernel, by decide +kernel, by decide +kernel⟩
theorem ok_V_L_156 : okV "WallShiftsLaw" 156 yM_undo prog_6_method_79_code 1 (Option.some Jvm.ClassFile.FieldType.int) 0 := okV_of qw_1028 qw_1029 qw_1030 qw_45 qw_1031 ⟨by decide +kernel, by decide +kernel, by decide +kernel⟩
theorem ok_V_L_157 : okV "WallShiftsLaw" 157 yW_tear prog_1_method_36_code 2 (Option.some Jvm.ClassFile.FieldType.int) 0 := okV_of qw_622 qw_623 qw_624 qw_41 qw_625 ⟨by decide +kernel, by decide +kernel, by decide +kernel⟩
theorem ok_V_L_160 : okV "WallShiftsLaw" 160 yM_tear prog_6_method_80_code 2 (Option.some Jvm.ClassFile.FieldType.int) 0 := okV_of qw_1032 qw_1033 qw_1034 qw_45 qw_1035 ⟨by decide +kernel, by decide +kernel, by decide +kernel⟩
theorem ok_V_L_161 : okV "WallShiftsLaw" 161 yW_count prog_1_method_37_code 2 (Option.some Jvm.ClassFile.FieldType.int) 1 := okV_of qw_626 qw_627 qw_628 qw_41 qw_629 ⟨by decide +kernel, by decide +kernel, by decide +kernel⟩
theorem ok_V_L_164 : okV "WallShiftsLaw" 164 yM_count prog_6_method_81_code 4 (Option.some Jvm.ClassFile.FieldType.int) 1 := okV_of qw_1036 qw_1037 qw_1038 qw_45 qw_1039 ⟨by decide +kernel, by decide +kernel, by decide +kernel⟩
theorem ok_V_L_165 : okV "WallShiftsLaw" 165 yW_status prog_1_method_38_code 4 (Option.some Jvm.ClassFile.FieldType.int) 1 := okV_of qw_638 qw_639 qw_640 qw_41 qw_641 ⟨by decide +kernel, by decide +kernel, by decide +kernel⟩
theorem ok_V_L_168 : okV "WallShiftsLaw" 168 yM_status prog_6_method_82_code 4 (Option.some Jvm.ClassFile.FieldType.int) 1 := okV_of qw_1040 qw_1041 qw_1042 qw_45 qw_1043 ⟨by decide +kernel, by decide +kernel, by decide +kernel⟩
theorem tsw_out_0_36 {x : Int32} (g0 : ¬ x = (0 : Int32)) (g1 : ¬ x = (1 : Int32)) (g2 : ¬ x = (2 : Int32)) (g3 : ¬ x = (3 : Int32)) (g4 : ¬ x = (4 : Int32)) (g5 : ¬ x = (5 : Int32)) (g6 : ¬ x = (6 : Int32)) (g7 : ¬ x = (7 : Int32)) (g8 : ¬ x = (8 : Int32)) (g9 : ¬ x = (9 : Int32)) (g10 : ¬ x = (10 : Int32)) (g11 : ¬ x = (11 : Int32)) (g12 : ¬ x = (12 : Int32)) (g13 : ¬ x = (13 : Int32)) (g14 : ¬ x = (14 : Int32)) (g15 : ¬ x = (15 : Int32)) (g16 : ¬ x = (16 : Int32)) (g17 : ¬ x = (17 : Int32)) (g18 : ¬ x = (18 : Int32)) (g19 : ¬ x = (19 : Int32)) (g20 : ¬ x = (20 : Int32)) (g21 : ¬ x = (21 : Int32)) (g22 : ¬ x = (22 : Int32)) (g23 : ¬ x = (23 : Int32)) (g24 : ¬ x = (24 : Int32)) (g25 : ¬ x = (25 : Int32)) (g26 : ¬ x = (26 : Int32)) (g27 : ¬ x = (27 : Int32)) (g28 : ¬ x = (28 : Int32)) (g29 : ¬ x = (29 : Int32)) (g30 : ¬ x = (30 : Int32)) (g31 : ¬ x = (31 : Int32)) (g32 : ¬ x = (32 : Int32)) (g33 : ¬ x = (33 : Int32)) (g34 : ¬ x = (34 : Int32)) (g35 : ¬ x = (35 : Int32)) (g36 : ¬ x = (36 : Int32)) : x.toInt < (0 : Int) ∨ (36 : Int) < x.toInt := by
  have e0 : x.toInt ≠ (0 : Int) := ne_toInt g0
  have e1 : x.toInt ≠ (1 : Int) := ne_toInt g1
  have e2 : x.toInt ≠ (2 : Int) := ne_toInt g2
  have e3 : x.toInt ≠ (3 : Int) := ne_toInt g3
  have e4 : x.toInt ≠ (4 : Int) := ne_toInt g4
  have e5 : x.toInt ≠ (5 : Int) := ne_toInt g5
  have e6 : x.toInt ≠ (6 : Int) := ne_toInt g6
  have e7 : x.toInt ≠ (7 : Int) := ne_toInt g7
  have e8 : x.toInt ≠ (8 : Int) := ne_toInt g8
  have e9 : x.toInt ≠ (9 : Int) := ne_toInt g9
  have e10 : x.toInt ≠ (10 : Int) := ne_toInt g10
  have e11 : x.toInt ≠ (11 : Int) := ne_toInt g11
  have e12 : x.toInt ≠ (12 : Int) := ne_toInt g12
  have e13 : x.toInt ≠ (13 : Int) := ne_toInt g13
  have e14 : x.toInt ≠ (14 : Int) := ne_toInt g14
  have e15 : x.toInt ≠ (15 : Int) := ne_toInt g15
  have e16 : x.toInt ≠ (16 : Int) := ne_toInt g16
  have e17 : x.toInt ≠ (17 : Int) := ne_toInt g17
  have e18 : x.toInt ≠ (18 : Int) := ne_toInt g18
  have e19 : x.toInt ≠ (19 : Int) := ne_toInt g19
  have e20 : x.toInt ≠ (20 : Int) := ne_toInt g20
  have e21 : x.toInt ≠ (21 : Int) := ne_toInt g21
  have e22 : x.toInt ≠ (22 : Int) := ne_toInt g22
  have e23 : x.toInt ≠ (23 : Int) := ne_toInt g23
  have e24 : x.toInt ≠ (24 : Int) := ne_toInt g24
  have e25 : x.toInt ≠ (25 : Int) := ne_toInt g25
  have e26 : x.toInt ≠ (26 : Int) := ne_toInt g26
  have e27 : x.toInt ≠ (27 : Int) := ne_toInt g27
  have e28 : x.toInt ≠ (28 : Int) := ne_toInt g28
  have e29 : x.toInt ≠ (29 : Int) := ne_toInt g29
  have e30 : x.toInt ≠ (30 : Int) := ne_toInt g30
  have e31 : x.toInt ≠ (31 : Int) := ne_toInt g31
  have e32 : x.toInt ≠ (32 : Int) := ne_toInt g32
  have e33 : x.toInt ≠ (33 : Int) := ne_toInt g33
  have e34 : x.toInt ≠ (34 : Int) := ne_toInt g34
  have e35 : x.toInt ≠ (35 : Int) := ne_toInt g35
  have e36 : x.toInt ≠ (36 : Int) := ne_toInt g36
  omega
theorem eL_law_18 : decode code 18 = .ok (.iload_n 3, 1) := by decide +kernel
theorem eL_law_19 : decode code 19 = .ok (.aload_n 0, 1) := by decide +kernel
theorem eL_law_20 : decode code 20 = .ok (.arraylength, 1) := by decide +kernel
theorem eL_law_21 : decode code 21 = .ok (.bipush 6, 2) := by decide +kernel
theorem eL_law_23 : decode code 23 = .ok (.isub, 1) := by decide +kernel
theorem eL_law_24 : decode code 24 = .ok (.if_icmp .gt 1310, 3) := by decide +kernel
theorem eL_law_27 : decode code 27 = .ok (.aload_n 0, 1) := by decide +kernel
theorem eL_law_28 : decode code 28 = .ok (.iload_n 3, 1) := by decide +kernel
theorem eL_law_29 : decode code 29 = .ok (.iaload, 1) := by decide +kernel
theorem eL_law_30 : decode code 30 = .ok (.bipush 63, 2) := by decide +kernel
theorem eL_law_32 : decode code 32 = .ok (.iand, 1) := by decide +kernel
theorem eL_law_33 : decode code 33 = .ok (.tableswitch 1295 0 36 #[163, 196, 239, 272, 315, 348, 381, 414, 447, 470, 503, 526, 549, 572, 595, 628, 651, 684, 717, 750, 783, 826, 859, 882, 915, 928, 941, 984, 1058, 1121, 1144, 1177, 1210, 1223, 1236, 1249, 1272], 163) := by decide +kernel
theorem eL_law_196 : decode code 196 = .ok (.aload_n 1, 1) := by decide +kernel
theorem eL_law_197 : decode code 197 = .ok (.aload_n 0, 1) := by decide +kernel
theorem eL_law_198 : decode code 198 = .ok (.iload_n 3, 1) := by decide +kernel
theorem eL_law_199 : decode code 199 = .ok (.iconst 1, 1) := by decide +kernel
theorem eL_law_200 : decode code 200 = .ok (.iadd, 1) := by decide +kernel
theorem eL_law_201 : decode code 201 = .ok (.iaload, 1) := by decide +kernel
theorem eL_law_202 : decode code 202 = .ok (.aload_n 0, 1) := by decide +kernel
theorem eL_law_203 : decode code 203 = .ok (.iload_n 3, 1) := by decide +kernel
theorem eL_law_204 : decode code 204 = .ok (.iconst 2, 1) := by decide +kernel
theorem eL_law_205 : decode code 205 = .ok (.iadd, 1) := by decide +kernel
theorem eL_law_206 : decode code 206 = .ok (.iaload, 1) := by decide +kernel
theorem eL_law_207 : decode code 207 = .ok (.invokevirtual 13, 3) := by decide +kernel
theorem eL_law_210 : decode code 210 = .ok (.aload_n 2, 1) := by decide +kernel
theorem eL_law_211 : decode code 211 = .ok (.aload_n 0, 1) := by decide +kernel
theorem eL_law_212 : decode code 212 = .ok (.iload_n 3, 1) := by decide +kernel
theorem eL_law_213 : decode code 213 = .ok (.iconst 1, 1) := by decide +kernel
theorem eL_law_214 : decode code 214 = .ok (.iadd, 1) := by decide +kernel
theorem eL_law_215 : decode code 215 = .ok (.iaload, 1) := by decide +kernel
theorem eL_law_216 : decode code 216 = .ok (.aload_n 0, 1) := by decide +kernel
theorem eL_law_217 : decode code 217 = .ok (.iload_n 3, 1) := by decide +kernel
theorem eL_law_218 : decode code 218 = .ok (.iconst 2, 1) := by decide +kernel
theorem eL_law_219 : decode code 219 = .ok (.iadd, 1) := by decide +kernel
theorem eL_law_220 : decode code 220 = .ok (.iaload, 1) := by decide +kernel
theorem eL_law_221 : decode code 221 = .ok (.invokevirtual 17, 3) := by decide +kernel
theorem eL_law_224 : decode code 224 = .ok (.if_icmp .eq 1104, 3) := by decide +kernel
theorem eL_law_227 : decode code 227 = .ok (.iconst 0, 1) := by decide +kernel
theorem eL_law_229 : decode code 229 = .ok (.aload_n 1, 1) := by decide +kernel
theorem eL_law_230 : decode code 230 = .ok (.aload_n 0, 1) := by decide +kernel
theorem eL_law_231 : decode code 231 = .ok (.iload_n 3, 1) := by decide +kernel
theorem eL_law_232 : decode code 232 = .ok (.iconst 1, 1) := by decide +kernel
theorem eL_law_233 : decode code 233 = .ok (.iadd, 1) := by decide +kernel
theorem eL_law_234 : decode code 234 = .ok (.iaload, 1) := by decide +kernel
theorem eL_law_235 : decode code 235 = .ok (.aload_n 0, 1) := by decide +kernel
theorem eL_law_236 : decode code 236 = .ok (.iload_n 3, 1) := by decide +kernel
theorem eL_law_237 : decode code 237 = .ok (.iconst 2, 1) := by decide +kernel
theorem eL_law_238 : decode code 238 = .ok (.iadd, 1) := by decide +kernel
theorem eL_law_239 : decode code 239 = .ok (.iaload, 1) := by decide +kernel
theorem eL_law_240 : decode code 240 = .ok (.aload_n 0, 1) := by decide +kernel
theorem eL_law_241 : decode code 241 = .ok (.iload_n 3, 1) := by decide +kernel
theorem eL_law_242 : decode code 242 = .ok (.iconst 3, 1) := by decide +kernel
theorem eL_law_243 : decode code 243 = .ok (.iadd, 1) := by decide +kernel
theorem eL_law_244 : decode code 244 = .ok (.iaload, 1) := by decide +kernel
theorem eL_law_245 : decode code 245 = .ok (.invokevirtual 18, 3) := by decide +kernel
theorem eL_law_248 : decode code 248 = .ok (.aload_n 2, 1) := by decide +kernel
theorem eL_law_249 : decode code 249 = .ok (.aload_n 0, 1) := by decide +kernel
theorem eL_law_250 : decode code 250 = .ok (.iload_n 3, 1) := by decide +kernel
theorem eL_law_251 : decode code 251 = .ok (.iconst 1, 1) := by decide +kernel
theorem eL_law_252 : decode code 252 = .ok (.iadd, 1) := by decide +kernel
theorem eL_law_253 : decode code 253 = .ok (.iaload, 1) := by decide +kernel
theorem eL_law_254 : decode code 254 = .ok (.aload_n 0, 1) := by decide +kernel
theorem eL_law_255 : decode code 255 = .ok (.iload_n 3, 1) := by decide +kernel
theorem eL_law_256 : decode code 256 = .ok (.iconst 2, 1) := by decide +kernel
theorem eL_law_257 : decode code 257 = .ok (.iadd, 1) := by decide +kernel
theorem eL_law_258 : decode code 258 = .ok (.iaload, 1) := by decide +kernel
theorem eL_law_259 : decode code 259 = .ok (.aload_n 0, 1) := by decide +kernel
theorem eL_law_260 : decode code 260 = .ok (.iload_n 3, 1) := by decide +kernel
theorem eL_law_261 : decode code 261 = .ok (.iconst 3, 1) := by decide +kernel
theorem eL_law_262 : decode code 262 = .ok (.iadd, 1) := by decide +kernel
theorem eL_law_263 : decode code 263 = .ok (.iaload, 1) := by decide +kernel
theorem eL_law_264 : decode code 264 = .ok (.invokevirtual 22, 3) := by decide +kernel
theorem eL_law_267 : decode code 267 = .ok (.if_icmp .eq 1061, 3) := by decide +kernel
theorem eL_law_270 : decode code 270 = .ok (.iconst 0, 1) := by decide +kernel
theorem eL_law_272 : decode code 272 = .ok (.aload_n 1, 1) := by decide +kernel
theorem eL_law_273 : decode code 273 = .ok (.aload_n 0, 1) := by decide +kernel
theorem eL_law_274 : decode code 274 = .ok (.iload_n 3, 1) := by decide +kernel
theorem eL_law_275 : decode code 275 = .ok (.iconst 1, 1) := by decide +kernel
theorem eL_law_276 : decode code 276 = .ok (.iadd, 1) := by decide +kernel
theorem eL_law_277 : decode code 277 = .ok (.iaload, 1) := by decide +kernel
theorem eL_law_278 : decode code 278 = .ok (.aload_n 0, 1) := by decide +kernel
theorem eL_law_279 : decode code 279 = .ok (.iload_n 3, 1) := by decide +kernel
theorem eL_law_280 : decode code 280 = .ok (.iconst 2, 1) := by decide +kernel
theorem eL_law_281 : decode code 281 = .ok (.iadd, 1) := by decide +kernel
theorem eL_law_282 : decode code 282 = .ok (.iaload, 1) := by decide +kernel
theorem eL_law_283 : decode code 283 = .ok (.invokevirtual 23, 3) := by decide +kernel
theorem eL_law_286 : decode code 286 = .ok (.aload_n 2, 1) := by decide +kernel
theorem eL_law_287 : decode code 287 = .ok (.aload_n 0, 1) := by decide +kernel
theorem eL_law_288 : decode code 288 = .ok (.iload_n 3, 1) := by decide +kernel
theorem eL_law_289 : decode code 289 = .ok (.iconst 1, 1) := by decide +kernel
theorem eL_law_290 : decode code 290 = .ok (.iadd, 1) := by decide +kernel
theorem eL_law_291 : decode code 291 = .ok (.iaload, 1) := by decide +kernel
theorem eL_law_292 : decode code 292 = .ok (.aload_n 0, 1) := by decide +kernel
theorem eL_law_293 : decode code 293 = .ok (.iload_n 3, 1) := by decide +kernel
theorem eL_law_294 : decode code 294 = .ok (.iconst 2, 1) := by decide +kernel
theorem eL_law_295 : decode code 295 = .ok (.iadd, 1) := by decide +kernel
theorem eL_law_296 : decode code 296 = .ok (.iaload, 1) := by decide +kernel
theorem eL_law_297 : decode code 297 = .ok (.invokevirtual 26, 3) := by decide +kernel
theorem eL_law_300 : decode code 300 = .ok (.if_icmp .eq 1028, 3) := by decide +kernel
theorem eL_law_303 : decode code 303 = .ok (.iconst 0, 1) := by decide +kernel
theorem eL_law_305 : decode code 305 = .ok (.aload_n 1, 1) := by decide +kernel
theorem eL_law_306 : decode code 306 = .ok (.aload_n 0, 1) := by decide +kernel
theorem eL_law_307 : decode code 307 = .ok (.iload_n 3, 1) := by decide +kernel
theorem eL_law_308 : decode code 308 = .ok (.iconst 1, 1) := by decide +kernel
theorem eL_law_309 : decode code 309 = .ok (.iadd, 1) := by decide +kernel
theorem eL_law_310 : decode code 310 = .ok (.iaload, 1) := by decide +kernel
theorem eL_law_311 : decode code 311 = .ok (.aload_n 0, 1) := by decide +kernel
theorem eL_law_312 : decode code 312 = .ok (.iload_n 3, 1) := by decide +kernel
theorem eL_law_313 : decode code 313 = .ok (.iconst 2, 1) := by decide +kernel
theorem eL_law_314 : decode code 314 = .ok (.iadd, 1) := by decide +kernel
theorem eL_law_315 : decode code 315 = .ok (.iaload, 1) := by decide +kernel
theorem eL_law_316 : decode code 316 = .ok (.aload_n 0, 1) := by decide +kernel
theorem eL_law_317 : decode code 317 = .ok (.iload_n 3, 1) := by decide +kernel
theorem eL_law_318 : decode code 318 = .ok (.iconst 3, 1) := by decide +kernel
theorem eL_law_319 : decode code 319 = .ok (.iadd, 1) := by decide +kernel
theorem eL_law_320 : decode code 320 = .ok (.iaload, 1) := by decide +kernel
theorem eL_law_321 : decode code 321 = .ok (.invokevirtual 27, 3) := by decide +kernel
theorem eL_law_324 : decode code 324 = .ok (.aload_n 2, 1) := by decide +kernel
theorem eL_law_325 : decode code 325 = .ok (.aload_n 0, 1) := by decide +kernel
theorem eL_law_326 : decode code 326 = .ok (.iload_n 3, 1) := by decide +kernel
theorem eL_law_327 : decode code 327 = .ok (.iconst 1, 1) := by decide +kernel
theorem eL_law_328 : decode code 328 = .ok (.iadd, 1) := by decide +kernel
theorem eL_law_329 : decode code 329 = .ok (.iaload, 1) := by decide +kernel
theorem eL_law_330 : decode code 330 = .ok (.aload_n 0, 1) := by decide +kernel
theorem eL_law_331 : decode code 331 = .ok (.iload_n 3, 1) := by decide +kernel
theorem eL_law_332 : decode code 332 = .ok (.iconst 2, 1) := by decide +kernel
theorem eL_law_333 : decode code 333 = .ok (.iadd, 1) := by decide +kernel
theorem eL_law_334 : decode code 334 = .ok (.iaload, 1) := by decide +kernel
theorem eL_law_335 : decode code 335 = .ok (.aload_n 0, 1) := by decide +kernel
theorem eL_law_336 : decode code 336 = .ok (.iload_n 3, 1) := by decide +kernel
theorem eL_law_337 : decode code 337 = .ok (.iconst 3, 1) := by decide +kernel
theorem eL_law_338 : decode code 338 = .ok (.iadd, 1) := by decide +kernel
theorem eL_law_339 : decode code 339 = .ok (.iaload, 1) := by decide +kernel
theorem eL_law_340 : decode code 340 = .ok (.invokevirtual 30, 3) := by decide +kernel
theorem eL_law_343 : decode code 343 = .ok (.if_icmp .eq 985, 3) := by decide +kernel
theorem eL_law_346 : decode code 346 = .ok (.iconst 0, 1) := by decide +kernel
theorem eL_law_348 : decode code 348 = .ok (.aload_n 1, 1) := by decide +kernel
theorem eL_law_349 : decode code 349 = .ok (.aload_n 0, 1) := by decide +kernel
theorem eL_law_350 : decode code 350 = .ok (.iload_n 3, 1) := by decide +kernel
theorem eL_law_351 : decode code 351 = .ok (.iconst 1, 1) := by decide +kernel
theorem eL_law_352 : decode code 352 = .ok (.iadd, 1) := by decide +kernel
theorem eL_law_353 : decode code 353 = .ok (.iaload, 1) := by decide +kernel
theorem eL_law_354 : decode code 354 = .ok (.aload_n 0, 1) := by decide +kernel
theorem eL_law_355 : decode code 355 = .ok (.iload_n 3, 1) := by decide +kernel
theorem eL_law_356 : decode code 356 = .ok (.iconst 2, 1) := by decide +kernel
theorem eL_law_357 : decode code 357 = .ok (.iadd, 1) := by decide +kernel
theorem eL_law_358 : decode code 358 = .ok (.iaload, 1) := by decide +kernel
theorem eL_law_359 : decode code 359 = .ok (.invokevirtual 31, 3) := by decide +kernel
theorem eL_law_362 : decode code 362 = .ok (.aload_n 2, 1) := by decide +kernel
theorem eL_law_363 : decode code 363 = .ok (.aload_n 0, 1) := by decide +kernel
theorem eL_law_364 : decode code 364 = .ok (.iload_n 3, 1) := by decide +kernel
theorem eL_law_365 : decode code 365 = .ok (.iconst 1, 1) := by decide +kernel
theorem eL_law_366 : decode code 366 = .ok (.iadd, 1) := by decide +kernel
theorem eL_law_367 : decode code 367 = .ok (.iaload, 1) := by decide +kernel
theorem eL_law_368 : decode code 368 = .ok (.aload_n 0, 1) := by decide +kernel
theorem eL_law_369 : decode code 369 = .ok (.iload_n 3, 1) := by decide +kernel
theorem eL_law_370 : decode code 370 = .ok (.iconst 2, 1) := by decide +kernel
theorem eL_law_371 : decode code 371 = .ok (.iadd, 1) := by decide +kernel
theorem eL_law_372 : decode code 372 = .ok (.iaload, 1) := by decide +kernel
theorem eL_law_373 : decode code 373 = .ok (.invokevirtual 34, 3) := by decide +kernel
theorem eL_law_376 : decode code 376 = .ok (.if_icmp .eq 952, 3) := by decide +kernel
theorem eL_law_379 : decode code 379 = .ok (.iconst 0, 1) := by decide +kernel
theorem eL_law_381 : decode code 381 = .ok (.aload_n 1, 1) := by decide +kernel
theorem eL_law_382 : decode code 382 = .ok (.aload_n 0, 1) := by decide +kernel
theorem eL_law_383 : decode code 383 = .ok (.iload_n 3, 1) := by decide +kernel
theorem eL_law_384 : decode code 384 = .ok (.iconst 1, 1) := by decide +kernel
theorem eL_law_385 : decode code 385 = .ok (.iadd, 1) := by decide +kernel
theorem eL_law_386 : decode code 386 = .ok (.iaload, 1) := by decide +kernel
theorem eL_law_387 : decode code 387 = .ok (.aload_n 0, 1) := by decide +kernel
theorem eL_law_388 : decode code 388 = .ok (.iload_n 3, 1) := by decide +kernel
theorem eL_law_389 : decode code 389 = .ok (.iconst 2, 1) := by decide +kernel
theorem eL_law_390 : decode code 390 = .ok (.iadd, 1) := by decide +kernel
theorem eL_law_391 : decode code 391 = .ok (.iaload, 1) := by decide +kernel
theorem eL_law_392 : decode code 392 = .ok (.invokevirtual 35, 3) := by decide +kernel
theorem eL_law_395 : decode code 395 = .ok (.aload_n 2, 1) := by decide +kernel
theorem eL_law_396 : decode code 396 = .ok (.aload_n 0, 1) := by decide +kernel
theorem eL_law_397 : decode code 397 = .ok (.iload_n 3, 1) := by decide +kernel
theorem eL_law_398 : decode code 398 = .ok (.iconst 1, 1) := by decide +kernel
theorem eL_law_399 : decode code 399 = .ok (.iadd, 1) := by decide +kernel
theorem eL_law_400 : decode code 400 = .ok (.iaload, 1) := by decide +kernel
theorem eL_law_401 : decode code 401 = .ok (.aload_n 0, 1) := by decide +kernel
theorem eL_law_402 : decode code 402 = .ok (.iload_n 3, 1) := by decide +kernel
theorem eL_law_403 : decode code 403 = .ok (.iconst 2, 1) := by decide +kernel
theorem eL_law_404 : decode code 404 = .ok (.iadd, 1) := by decide +kernel
theorem eL_law_405 : decode code 405 = .ok (.iaload, 1) := by decide +kernel
theorem eL_law_406 : decode code 406 = .ok (.invokevirtual 38, 3) := by decide +kernel
theorem eL_law_409 : decode code 409 = .ok (.if_icmp .eq 919, 3) := by decide +kernel
theorem eL_law_412 : decode code 412 = .ok (.iconst 0, 1) := by decide +kernel
theorem eL_law_414 : decode code 414 = .ok (.aload_n 1, 1) := by decide +kernel
theorem eL_law_415 : decode code 415 = .ok (.aload_n 0, 1) := by decide +kernel
theorem eL_law_416 : decode code 416 = .ok (.iload_n 3, 1) := by decide +kernel
theorem eL_law_417 : decode code 417 = .ok (.iconst 1, 1) := by decide +kernel
theorem eL_law_418 : decode code 418 = .ok (.iadd, 1) := by decide +kernel
theorem eL_law_419 : decode code 419 = .ok (.iaload, 1) := by decide +kernel
theorem eL_law_420 : decode code 420 = .ok (.aload_n 0, 1) := by decide +kernel
theorem eL_law_421 : decode code 421 = .ok (.iload_n 3, 1) := by decide +kernel
theorem eL_law_422 : decode code 422 = .ok (.iconst 2, 1) := by decide +kernel
theorem eL_law_423 : decode code 423 = .ok (.iadd, 1) := by decide +kernel
theorem eL_law_424 : decode code 424 = .ok (.iaload, 1) := by decide +kernel
theorem eL_law_425 : decode code 425 = .ok (.invokevirtual 39, 3) := by decide +kernel
theorem eL_law_428 : decode code 428 = .ok (.aload_n 2, 1) := by decide +kernel
theorem eL_law_429 : decode code 429 = .ok (.aload_n 0, 1) := by decide +kernel
theorem eL_law_430 : decode code 430 = .ok (.iload_n 3, 1) := by decide +kernel
theorem eL_law_431 : decode code 431 = .ok (.iconst 1, 1) := by decide +kernel
theorem eL_law_432 : decode code 432 = .ok (.iadd, 1) := by decide +kernel
theorem eL_law_433 : decode code 433 = .ok (.iaload, 1) := by decide +kernel
theorem eL_law_434 : decode code 434 = .ok (.aload_n 0, 1) := by decide +kernel
theorem eL_law_435 : decode code 435 = .ok (.iload_n 3, 1) := by decide +kernel
theorem eL_law_436 : decode code 436 = .ok (.iconst 2, 1) := by decide +kernel
theorem eL_law_437 : decode code 437 = .ok (.iadd, 1) := by decide +kernel
theorem eL_law_438 : decode code 438 = .ok (.iaload, 1) := by decide +kernel
theorem eL_law_439 : decode code 439 = .ok (.invokevirtual 42, 3) := by decide +kernel
theorem eL_law_442 : decode code 442 = .ok (.if_icmp .eq 886, 3) := by decide +kernel
theorem eL_law_445 : decode code 445 = .ok (.iconst 0, 1) := by decide +kernel
theorem eL_law_447 : decode code 447 = .ok (.aload_n 1, 1) := by decide +kernel
theorem eL_law_448 : decode code 448 = .ok (.aload_n 0, 1) := by decide +kernel
theorem eL_law_449 : decode code 449 = .ok (.iload_n 3, 1) := by decide +kernel
theorem eL_law_450 : decode code 450 = .ok (.iconst 1, 1) := by decide +kernel
theorem eL_law_451 : decode code 451 = .ok (.iadd, 1) := by decide +kernel
theorem eL_law_452 : decode code 452 = .ok (.iaload, 1) := by decide +kernel
theorem eL_law_453 : decode code 453 = .ok (.aload_n 0, 1) := by decide +kernel
theorem eL_law_454 : decode code 454 = .ok (.iload_n 3, 1) := by decide +kernel
theorem eL_law_455 : decode code 455 = .ok (.iconst 2, 1) := by decide +kernel
theorem eL_law_456 : decode code 456 = .ok (.iadd, 1) := by decide +kernel
theorem eL_law_457 : decode code 457 = .ok (.iaload, 1) := by decide +kernel
theorem eL_law_458 : decode code 458 = .ok (.invokevirtual 43, 3) := by decide +kernel
theorem eL_law_461 : decode code 461 = .ok (.aload_n 2, 1) := by decide +kernel
theorem eL_law_462 : decode code 462 = .ok (.aload_n 0, 1) := by decide +kernel
theorem eL_law_463 : decode code 463 = .ok (.iload_n 3, 1) := by decide +kernel
theorem eL_law_464 : decode code 464 = .ok (.iconst 1, 1) := by decide +kernel
theorem eL_law_465 : decode code 465 = .ok (.iadd, 1) := by decide +kernel
theorem eL_law_466 : decode code 466 = .ok (.iaload, 1) := by decide +kernel
theorem eL_law_467 : decode code 467 = .ok (.aload_n 0, 1) := by decide +kernel
theorem eL_law_468 : decode code 468 = .ok (.iload_n 3, 1) := by decide +kernel
theorem eL_law_469 : decode code 469 = .ok (.iconst 2, 1) := by decide +kernel
theorem eL_law_470 : decode code 470 = .ok (.iadd, 1) := by decide +kernel
theorem eL_law_471 : decode code 471 = .ok (.iaload, 1) := by decide +kernel
theorem eL_law_472 : decode code 472 = .ok (.invokevirtual 46, 3) := by decide +kernel
theorem eL_law_475 : decode code 475 = .ok (.if_icmp .eq 853, 3) := by decide +kernel
theorem eL_law_478 : decode code 478 = .ok (.iconst 0, 1) := by decide +kernel
theorem eL_law_480 : decode code 480 = .ok (.aload_n 1, 1) := by decide +kernel
theorem eL_law_481 : decode code 481 = .ok (.aload_n 0, 1) := by decide +kernel
theorem eL_law_482 : decode code 482 = .ok (.iload_n 3, 1) := by decide +kernel
theorem eL_law_483 : decode code 483 = .ok (.iconst 1, 1) := by decide +kernel
theorem eL_law_484 : decode code 484 = .ok (.iadd, 1) := by decide +kernel
theorem eL_law_485 : decode code 485 = .ok (.iaload, 1) := by decide +kernel
theorem eL_law_486 : decode code 486 = .ok (.invokevirtual 47, 3) := by decide +kernel
theorem eL_law_489 : decode code 489 = .ok (.aload_n 2, 1) := by decide +kernel
theorem eL_law_490 : decode code 490 = .ok (.aload_n 0, 1) := by decide +kernel
theorem eL_law_491 : decode code 491 = .ok (.iload_n 3, 1) := by decide +kernel
theorem eL_law_492 : decode code 492 = .ok (.iconst 1, 1) := by decide +kernel
theorem eL_law_493 : decode code 493 = .ok (.iadd, 1) := by decide +kernel
theorem eL_law_494 : decode code 494 = .ok (.iaload, 1) := by decide +kernel
theorem eL_law_495 : decode code 495 = .ok (.invokevirtual 51, 3) := by decide +kernel
theorem eL_law_498 : decode code 498 = .ok (.if_icmp .eq 830, 3) := by decide +kernel
theorem eL_law_501 : decode code 501 = .ok (.iconst 0, 1) := by decide +kernel
theorem eL_law_503 : decode code 503 = .ok (.aload_n 1, 1) := by decide +kernel
theorem eL_law_504 : decode code 504 = .ok (.aload_n 0, 1) := by decide +kernel
theorem eL_law_505 : decode code 505 = .ok (.iload_n 3, 1) := by decide +kernel
theorem eL_law_506 : decode code 506 = .ok (.iconst 1, 1) := by decide +kernel
theorem eL_law_507 : decode code 507 = .ok (.iadd, 1) := by decide +kernel
theorem eL_law_508 : decode code 508 = .ok (.iaload, 1) := by decide +kernel
theorem eL_law_509 : decode code 509 = .ok (.aload_n 0, 1) := by decide +kernel
theorem eL_law_510 : decode code 510 = .ok (.iload_n 3, 1) := by decide +kernel
theorem eL_law_511 : decode code 511 = .ok (.iconst 2, 1) := by decide +kernel
theorem eL_law_512 : decode code 512 = .ok (.iadd, 1) := by decide +kernel
theorem eL_law_513 : decode code 513 = .ok (.iaload, 1) := by decide +kernel
theorem eL_law_514 : decode code 514 = .ok (.invokevirtual 52, 3) := by decide +kernel
theorem eL_law_517 : decode code 517 = .ok (.aload_n 2, 1) := by decide +kernel
theorem eL_law_518 : decode code 518 = .ok (.aload_n 0, 1) := by decide +kernel
theorem eL_law_519 : decode code 519 = .ok (.iload_n 3, 1) := by decide +kernel
theorem eL_law_520 : decode code 520 = .ok (.iconst 1, 1) := by decide +kernel
theorem eL_law_521 : decode code 521 = .ok (.iadd, 1) := by decide +kernel
theorem eL_law_522 : decode code 522 = .ok (.iaload, 1) := by decide +kernel
theorem eL_law_523 : decode code 523 = .ok (.aload_n 0, 1) := by decide +kernel
theorem eL_law_524 : decode code 524 = .ok (.iload_n 3, 1) := by decide +kernel
theorem eL_law_525 : decode code 525 = .ok (.iconst 2, 1) := by decide +kernel
theorem eL_law_526 : decode code 526 = .ok (.iadd, 1) := by decide +kernel
theorem eL_law_527 : decode code 527 = .ok (.iaload, 1) := by decide +kernel
theorem eL_law_528 : decode code 528 = .ok (.invokevirtual 55, 3) := by decide +kernel
theorem eL_law_531 : decode code 531 = .ok (.if_icmp .eq 797, 3) := by decide +kernel
theorem eL_law_534 : decode code 534 = .ok (.iconst 0, 1) := by decide +kernel
theorem eL_law_536 : decode code 536 = .ok (.aload_n 1, 1) := by decide +kernel
theorem eL_law_537 : decode code 537 = .ok (.aload_n 0, 1) := by decide +kernel
theorem eL_law_538 : decode code 538 = .ok (.iload_n 3, 1) := by decide +kernel
theorem eL_law_539 : decode code 539 = .ok (.iconst 1, 1) := by decide +kernel
theorem eL_law_540 : decode code 540 = .ok (.iadd, 1) := by decide +kernel
theorem eL_law_541 : decode code 541 = .ok (.iaload, 1) := by decide +kernel
theorem eL_law_542 : decode code 542 = .ok (.invokevirtual 56, 3) := by decide +kernel
theorem eL_law_545 : decode code 545 = .ok (.aload_n 2, 1) := by decide +kernel
theorem eL_law_546 : decode code 546 = .ok (.aload_n 0, 1) := by decide +kernel
theorem eL_law_547 : decode code 547 = .ok (.iload_n 3, 1) := by decide +kernel
theorem eL_law_548 : decode code 548 = .ok (.iconst 1, 1) := by decide +kernel
theorem eL_law_549 : decode code 549 = .ok (.iadd, 1) := by decide +kernel
theorem eL_law_550 : decode code 550 = .ok (.iaload, 1) := by decide +kernel
theorem eL_law_551 : decode code 551 = .ok (.invokevirtual 59, 3) := by decide +kernel
theorem eL_law_554 : decode code 554 = .ok (.if_icmp .eq 774, 3) := by decide +kernel
theorem eL_law_557 : decode code 557 = .ok (.iconst 0, 1) := by decide +kernel
theorem eL_law_559 : decode code 559 = .ok (.aload_n 1, 1) := by decide +kernel
theorem eL_law_560 : decode code 560 = .ok (.aload_n 0, 1) := by decide +kernel
theorem eL_law_561 : decode code 561 = .ok (.iload_n 3, 1) := by decide +kernel
theorem eL_law_562 : decode code 562 = .ok (.iconst 1, 1) := by decide +kernel
theorem eL_law_563 : decode code 563 = .ok (.iadd, 1) := by decide +kernel
theorem eL_law_564 : decode code 564 = .ok (.iaload, 1) := by decide +kernel
theorem eL_law_565 : decode code 565 = .ok (.invokevirtual 60, 3) := by decide +kernel
theorem eL_law_568 : decode code 568 = .ok (.aload_n 2, 1) := by decide +kernel
theorem eL_law_569 : decode code 569 = .ok (.aload_n 0, 1) := by decide +kernel
theorem eL_law_570 : decode code 570 = .ok (.iload_n 3, 1) := by decide +kernel
theorem eL_law_571 : decode code 571 = .ok (.iconst 1, 1) := by decide +kernel
theorem eL_law_572 : decode code 572 = .ok (.iadd, 1) := by decide +kernel
theorem eL_law_573 : decode code 573 = .ok (.iaload, 1) := by decide +kernel
theorem eL_law_574 : decode code 574 = .ok (.invokevirtual 63, 3) := by decide +kernel
theorem eL_law_577 : decode code 577 = .ok (.if_icmp .eq 751, 3) := by decide +kernel
theorem eL_law_580 : decode code 580 = .ok (.iconst 0, 1) := by decide +kernel
theorem eL_law_582 : decode code 582 = .ok (.aload_n 1, 1) := by decide +kernel
theorem eL_law_583 : decode code 583 = .ok (.aload_n 0, 1) := by decide +kernel
theorem eL_law_584 : decode code 584 = .ok (.iload_n 3, 1) := by decide +kernel
theorem eL_law_585 : decode code 585 = .ok (.iconst 1, 1) := by decide +kernel
theorem eL_law_586 : decode code 586 = .ok (.iadd, 1) := by decide +kernel
theorem eL_law_587 : decode code 587 = .ok (.iaload, 1) := by decide +kernel
theorem eL_law_588 : decode code 588 = .ok (.invokevirtual 64, 3) := by decide +kernel
theorem eL_law_591 : decode code 591 = .ok (.aload_n 2, 1) := by decide +kernel
theorem eL_law_592 : decode code 592 = .ok (.aload_n 0, 1) := by decide +kernel
theorem eL_law_593 : decode code 593 = .ok (.iload_n 3, 1) := by decide +kernel
theorem eL_law_594 : decode code 594 = .ok (.iconst 1, 1) := by decide +kernel
theorem eL_law_595 : decode code 595 = .ok (.iadd, 1) := by decide +kernel
theorem eL_law_596 : decode code 596 = .ok (.iaload, 1) := by decide +kernel
theorem eL_law_597 : decode code 597 = .ok (.invokevirtual 67, 3) := by decide +kernel
theorem eL_law_600 : decode code 600 = .ok (.if_icmp .eq 728, 3) := by decide +kernel
theorem eL_law_603 : decode code 603 = .ok (.iconst 0, 1) := by decide +kernel
theorem eL_law_605 : decode code 605 = .ok (.aload_n 1, 1) := by decide +kernel
theorem eL_law_606 : decode code 606 = .ok (.aload_n 0, 1) := by decide +kernel
theorem eL_law_607 : decode code 607 = .ok (.iload_n 3, 1) := by decide +kernel
theorem eL_law_608 : decode code 608 = .ok (.iconst 1, 1) := by decide +kernel
theorem eL_law_609 : decode code 609 = .ok (.iadd, 1) := by decide +kernel
theorem eL_law_610 : decode code 610 = .ok (.iaload, 1) := by decide +kernel
theorem eL_law_611 : decode code 611 = .ok (.invokevirtual 68, 3) := by decide +kernel
theorem eL_law_614 : decode code 614 = .ok (.aload_n 2, 1) := by decide +kernel
theorem eL_law_615 : decode code 615 = .ok (.aload_n 0, 1) := by decide +kernel
theorem eL_law_616 : decode code 616 = .ok (.iload_n 3, 1) := by decide +kernel
theorem eL_law_617 : decode code 617 = .ok (.iconst 1, 1) := by decide +kernel
theorem eL_law_618 : decode code 618 = .ok (.iadd, 1) := by decide +kernel
theorem eL_law_619 : decode code 619 = .ok (.iaload, 1) := by decide +kernel
theorem eL_law_620 : decode code 620 = .ok (.invokevirtual 71, 3) := by decide +kernel
theorem eL_law_623 : decode code 623 = .ok (.if_icmp .eq 705, 3) := by decide +kernel
theorem eL_law_626 : decode code 626 = .ok (.iconst 0, 1) := by decide +kernel
theorem eL_law_628 : decode code 628 = .ok (.aload_n 1, 1) := by decide +kernel
theorem eL_law_629 : decode code 629 = .ok (.aload_n 0, 1) := by decide +kernel
theorem eL_law_630 : decode code 630 = .ok (.iload_n 3, 1) := by decide +kernel
theorem eL_law_631 : decode code 631 = .ok (.iconst 1, 1) := by decide +kernel
theorem eL_law_632 : decode code 632 = .ok (.iadd, 1) := by decide +kernel
theorem eL_law_633 : decode code 633 = .ok (.iaload, 1) := by decide +kernel
theorem eL_law_634 : decode code 634 = .ok (.aload_n 0, 1) := by decide +kernel
theorem eL_law_635 : decode code 635 = .ok (.iload_n 3, 1) := by decide +kernel
theorem eL_law_636 : decode code 636 = .ok (.iconst 2, 1) := by decide +kernel
theorem eL_law_637 : decode code 637 = .ok (.iadd, 1) := by decide +kernel
theorem eL_law_638 : decode code 638 = .ok (.iaload, 1) := by decide +kernel
theorem eL_law_639 : decode code 639 = .ok (.invokevirtual 72, 3) := by decide +kernel
theorem eL_law_642 : decode code 642 = .ok (.aload_n 2, 1) := by decide +kernel
theorem eL_law_643 : decode code 643 = .ok (.aload_n 0, 1) := by decide +kernel
theorem eL_law_644 : decode code 644 = .ok (.iload_n 3, 1) := by decide +kernel
theorem eL_law_645 : decode code 645 = .ok (.iconst 1, 1) := by decide +kernel
theorem eL_law_646 : decode code 646 = .ok (.iadd, 1) := by decide +kernel
theorem eL_law_647 : decode code 647 = .ok (.iaload, 1) := by decide +kernel
theorem eL_law_648 : decode code 648 = .ok (.aload_n 0, 1) := by decide +kernel
theorem eL_law_649 : decode code 649 = .ok (.iload_n 3, 1) := by decide +kernel
theorem eL_law_650 : decode code 650 = .ok (.iconst 2, 1) := by decide +kernel
theorem eL_law_651 : decode code 651 = .ok (.iadd, 1) := by decide +kernel
theorem eL_law_652 : decode code 652 = .ok (.iaload, 1) := by decide +kernel
theorem eL_law_653 : decode code 653 = .ok (.invokevirtual 75, 3) := by decide +kernel
theorem eL_law_656 : decode code 656 = .ok (.if_icmp .eq 672, 3) := by decide +kernel
theorem eL_law_659 : decode code 659 = .ok (.iconst 0, 1) := by decide +kernel
theorem eL_law_661 : decode code 661 = .ok (.aload_n 1, 1) := by decide +kernel
theorem eL_law_662 : decode code 662 = .ok (.aload_n 0, 1) := by decide +kernel
theorem eL_law_663 : decode code 663 = .ok (.iload_n 3, 1) := by decide +kernel
theorem eL_law_664 : decode code 664 = .ok (.iconst 1, 1) := by decide +kernel
theorem eL_law_665 : decode code 665 = .ok (.iadd, 1) := by decide +kernel
theorem eL_law_666 : decode code 666 = .ok (.iaload, 1) := by decide +kernel
theorem eL_law_667 : decode code 667 = .ok (.invokevirtual 76, 3) := by decide +kernel
theorem eL_law_670 : decode code 670 = .ok (.aload_n 2, 1) := by decide +kernel
theorem eL_law_671 : decode code 671 = .ok (.aload_n 0, 1) := by decide +kernel
theorem eL_law_672 : decode code 672 = .ok (.iload_n 3, 1) := by decide +kernel
theorem eL_law_673 : decode code 673 = .ok (.iconst 1, 1) := by decide +kernel
theorem eL_law_674 : decode code 674 = .ok (.iadd, 1) := by decide +kernel
theorem eL_law_675 : decode code 675 = .ok (.iaload, 1) := by decide +kernel
theorem eL_law_676 : decode code 676 = .ok (.invokevirtual 79, 3) := by decide +kernel
theorem eL_law_679 : decode code 679 = .ok (.if_icmp .eq 649, 3) := by decide +kernel
theorem eL_law_682 : decode code 682 = .ok (.iconst 0, 1) := by decide +kernel
theorem eL_law_684 : decode code 684 = .ok (.aload_n 1, 1) := by decide +kernel
theorem eL_law_685 : decode code 685 = .ok (.aload_n 0, 1) := by decide +kernel
theorem eL_law_686 : decode code 686 = .ok (.iload_n 3, 1) := by decide +kernel
theorem eL_law_687 : decode code 687 = .ok (.iconst 1, 1) := by decide +kernel
theorem eL_law_688 : decode code 688 = .ok (.iadd, 1) := by decide +kernel
theorem eL_law_689 : decode code 689 = .ok (.iaload, 1) := by decide +kernel
theorem eL_law_690 : decode code 690 = .ok (.aload_n 0, 1) := by decide +kernel
theorem eL_law_691 : decode code 691 = .ok (.iload_n 3, 1) := by decide +kernel
theorem eL_law_692 : decode code 692 = .ok (.iconst 2, 1) := by decide +kernel
theorem eL_law_693 : decode code 693 = .ok (.iadd, 1) := by decide +kernel
theorem eL_law_694 : decode code 694 = .ok (.iaload, 1) := by decide +kernel
theorem eL_law_695 : decode code 695 = .ok (.invokevirtual 80, 3) := by decide +kernel
theorem eL_law_698 : decode code 698 = .ok (.aload_n 2, 1) := by decide +kernel
theorem eL_law_699 : decode code 699 = .ok (.aload_n 0, 1) := by decide +kernel
theorem eL_law_700 : decode code 700 = .ok (.iload_n 3, 1) := by decide +kernel
theorem eL_law_701 : decode code 701 = .ok (.iconst 1, 1) := by decide +kernel
theorem eL_law_702 : decode code 702 = .ok (.iadd, 1) := by decide +kernel
theorem eL_law_703 : decode code 703 = .ok (.iaload, 1) := by decide +kernel
theorem eL_law_704 : decode code 704 = .ok (.aload_n 0, 1) := by decide +kernel
theorem eL_law_705 : decode code 705 = .ok (.iload_n 3, 1) := by decide +kernel
theorem eL_law_706 : decode code 706 = .ok (.iconst 2, 1) := by decide +kernel
theorem eL_law_707 : decode code 707 = .ok (.iadd, 1) := by decide +kernel
theorem eL_law_708 : decode code 708 = .ok (.iaload, 1) := by decide +kernel
theorem eL_law_709 : decode code 709 = .ok (.invokevirtual 83, 3) := by decide +kernel
theorem eL_law_712 : decode code 712 = .ok (.if_icmp .eq 616, 3) := by decide +kernel
theorem eL_law_715 : decode code 715 = .ok (.iconst 0, 1) := by decide +kernel
theorem eL_law_717 : decode code 717 = .ok (.aload_n 1, 1) := by decide +kernel
theorem eL_law_718 : decode code 718 = .ok (.aload_n 0, 1) := by decide +kernel
theorem eL_law_719 : decode code 719 = .ok (.iload_n 3, 1) := by decide +kernel
theorem eL_law_720 : decode code 720 = .ok (.iconst 1, 1) := by decide +kernel
theorem eL_law_721 : decode code 721 = .ok (.iadd, 1) := by decide +kernel
theorem eL_law_722 : decode code 722 = .ok (.iaload, 1) := by decide +kernel
theorem eL_law_723 : decode code 723 = .ok (.aload_n 0, 1) := by decide +kernel
theorem eL_law_724 : decode code 724 = .ok (.iload_n 3, 1) := by decide +kernel
theorem eL_law_725 : decode code 725 = .ok (.iconst 2, 1) := by decide +kernel
theorem eL_law_726 : decode code 726 = .ok (.iadd, 1) := by decide +kernel
theorem eL_law_727 : decode code 727 = .ok (.iaload, 1) := by decide +kernel
theorem eL_law_728 : decode code 728 = .ok (.invokevirtual 84, 3) := by decide +kernel
theorem eL_law_731 : decode code 731 = .ok (.aload_n 2, 1) := by decide +kernel
theorem eL_law_732 : decode code 732 = .ok (.aload_n 0, 1) := by decide +kernel
theorem eL_law_733 : decode code 733 = .ok (.iload_n 3, 1) := by decide +kernel
theorem eL_law_734 : decode code 734 = .ok (.iconst 1, 1) := by decide +kernel
theorem eL_law_735 : decode code 735 = .ok (.iadd, 1) := by decide +kernel
theorem eL_law_736 : decode code 736 = .ok (.iaload, 1) := by decide +kernel
theorem eL_law_737 : decode code 737 = .ok (.aload_n 0, 1) := by decide +kernel
theorem eL_law_738 : decode code 738 = .ok (.iload_n 3, 1) := by decide +kernel
theorem eL_law_739 : decode code 739 = .ok (.iconst 2, 1) := by decide +kernel
theorem eL_law_740 : decode code 740 = .ok (.iadd, 1) := by decide +kernel
theorem eL_law_741 : decode code 741 = .ok (.iaload, 1) := by decide +kernel
theorem eL_law_742 : decode code 742 = .ok (.invokevirtual 87, 3) := by decide +kernel
theorem eL_law_745 : decode code 745 = .ok (.if_icmp .eq 583, 3) := by decide +kernel
theorem eL_law_748 : decode code 748 = .ok (.iconst 0, 1) := by decide +kernel
theorem eL_law_750 : decode code 750 = .ok (.aload_n 1, 1) := by decide +kernel
theorem eL_law_751 : decode code 751 = .ok (.aload_n 0, 1) := by decide +kernel
theorem eL_law_752 : decode code 752 = .ok (.iload_n 3, 1) := by decide +kernel
theorem eL_law_753 : decode code 753 = .ok (.iconst 1, 1) := by decide +kernel
theorem eL_law_754 : decode code 754 = .ok (.iadd, 1) := by decide +kernel
theorem eL_law_755 : decode code 755 = .ok (.iaload, 1) := by decide +kernel
theorem eL_law_756 : decode code 756 = .ok (.aload_n 0, 1) := by decide +kernel
theorem eL_law_757 : decode code 757 = .ok (.iload_n 3, 1) := by decide +kernel
theorem eL_law_758 : decode code 758 = .ok (.iconst 2, 1) := by decide +kernel
theorem eL_law_759 : decode code 759 = .ok (.iadd, 1) := by decide +kernel
theorem eL_law_760 : decode code 760 = .ok (.iaload, 1) := by decide +kernel
theorem eL_law_761 : decode code 761 = .ok (.invokevirtual 88, 3) := by decide +kernel
theorem eL_law_764 : decode code 764 = .ok (.aload_n 2, 1) := by decide +kernel
theorem eL_law_765 : decode code 765 = .ok (.aload_n 0, 1) := by decide +kernel
theorem eL_law_766 : decode code 766 = .ok (.iload_n 3, 1) := by decide +kernel
theorem eL_law_767 : decode code 767 = .ok (.iconst 1, 1) := by decide +kernel
theorem eL_law_768 : decode code 768 = .ok (.iadd, 1) := by decide +kernel
theorem eL_law_769 : decode code 769 = .ok (.iaload, 1) := by decide +kernel
theorem eL_law_770 : decode code 770 = .ok (.aload_n 0, 1) := by decide +kernel
theorem eL_law_771 : decode code 771 = .ok (.iload_n 3, 1) := by decide +kernel
theorem eL_law_772 : decode code 772 = .ok (.iconst 2, 1) := by decide +kernel
theorem eL_law_773 : decode code 773 = .ok (.iadd, 1) := by decide +kernel
theorem eL_law_774 : decode code 774 = .ok (.iaload, 1) := by decide +kernel
theorem eL_law_775 : decode code 775 = .ok (.invokevirtual 91, 3) := by decide +kernel
theorem eL_law_778 : decode code 778 = .ok (.if_icmp .eq 550, 3) := by decide +kernel
theorem eL_law_781 : decode code 781 = .ok (.iconst 0, 1) := by decide +kernel
theorem eL_law_783 : decode code 783 = .ok (.aload_n 1, 1) := by decide +kernel
theorem eL_law_784 : decode code 784 = .ok (.aload_n 0, 1) := by decide +kernel
theorem eL_law_785 : decode code 785 = .ok (.iload_n 3, 1) := by decide +kernel
theorem eL_law_786 : decode code 786 = .ok (.iconst 1, 1) := by decide +kernel
theorem eL_law_787 : decode code 787 = .ok (.iadd, 1) := by decide +kernel
theorem eL_law_788 : decode code 788 = .ok (.iaload, 1) := by decide +kernel
theorem eL_law_789 : decode code 789 = .ok (.aload_n 0, 1) := by decide +kernel
theorem eL_law_790 : decode code 790 = .ok (.iload_n 3, 1) := by decide +kernel
theorem eL_law_791 : decode code 791 = .ok (.iconst 2, 1) := by decide +kernel
theorem eL_law_792 : decode code 792 = .ok (.iadd, 1) := by decide +kernel
theorem eL_law_793 : decode code 793 = .ok (.iaload, 1) := by decide +kernel
theorem eL_law_794 : decode code 794 = .ok (.invokevirtual 92, 3) := by decide +kernel
theorem eL_law_797 : decode code 797 = .ok (.aload_n 2, 1) := by decide +kernel
theorem eL_law_798 : decode code 798 = .ok (.aload_n 0, 1) := by decide +kernel
theorem eL_law_799 : decode code 799 = .ok (.iload_n 3, 1) := by decide +kernel
theorem eL_law_800 : decode code 800 = .ok (.iconst 1, 1) := by decide +kernel
theorem eL_law_801 : decode code 801 = .ok (.iadd, 1) := by decide +kernel
theorem eL_law_802 : decode code 802 = .ok (.iaload, 1) := by decide +kernel
theorem eL_law_803 : decode code 803 = .ok (.aload_n 0, 1) := by decide +kernel
theorem eL_law_804 : decode code 804 = .ok (.iload_n 3, 1) := by decide +kernel
theorem eL_law_805 : decode code 805 = .ok (.iconst 2, 1) := by decide +kernel
theorem eL_law_806 : decode code 806 = .ok (.iadd, 1) := by decide +kernel
theorem eL_law_807 : decode code 807 = .ok (.iaload, 1) := by decide +kernel
theorem eL_law_808 : decode code 808 = .ok (.invokevirtual 95, 3) := by decide +kernel
theorem eL_law_811 : decode code 811 = .ok (.if_icmp .eq 517, 3) := by decide +kernel
theorem eL_law_814 : decode code 814 = .ok (.iconst 0, 1) := by decide +kernel
theorem eL_law_816 : decode code 816 = .ok (.aload_n 1, 1) := by decide +kernel
theorem eL_law_817 : decode code 817 = .ok (.aload_n 0, 1) := by decide +kernel
theorem eL_law_818 : decode code 818 = .ok (.iload_n 3, 1) := by decide +kernel
theorem eL_law_819 : decode code 819 = .ok (.iconst 1, 1) := by decide +kernel
theorem eL_law_820 : decode code 820 = .ok (.iadd, 1) := by decide +kernel
theorem eL_law_821 : decode code 821 = .ok (.iaload, 1) := by decide +kernel
theorem eL_law_822 : decode code 822 = .ok (.aload_n 0, 1) := by decide +kernel
theorem eL_law_823 : decode code 823 = .ok (.iload_n 3, 1) := by decide +kernel
theorem eL_law_824 : decode code 824 = .ok (.iconst 2, 1) := by decide +kernel
theorem eL_law_825 : decode code 825 = .ok (.iadd, 1) := by decide +kernel
theorem eL_law_826 : decode code 826 = .ok (.iaload, 1) := by decide +kernel
theorem eL_law_827 : decode code 827 = .ok (.aload_n 0, 1) := by decide +kernel
theorem eL_law_828 : decode code 828 = .ok (.iload_n 3, 1) := by decide +kernel
theorem eL_law_829 : decode code 829 = .ok (.iconst 3, 1) := by decide +kernel
theorem eL_law_830 : decode code 830 = .ok (.iadd, 1) := by decide +kernel
theorem eL_law_831 : decode code 831 = .ok (.iaload, 1) := by decide +kernel
theorem eL_law_832 : decode code 832 = .ok (.invokevirtual 96, 3) := by decide +kernel
theorem eL_law_835 : decode code 835 = .ok (.aload_n 2, 1) := by decide +kernel
theorem eL_law_836 : decode code 836 = .ok (.aload_n 0, 1) := by decide +kernel
theorem eL_law_837 : decode code 837 = .ok (.iload_n 3, 1) := by decide +kernel
theorem eL_law_838 : decode code 838 = .ok (.iconst 1, 1) := by decide +kernel
theorem eL_law_839 : decode code 839 = .ok (.iadd, 1) := by decide +kernel
theorem eL_law_840 : decode code 840 = .ok (.iaload, 1) := by decide +kernel
theorem eL_law_841 : decode code 841 = .ok (.aload_n 0, 1) := by decide +kernel
theorem eL_law_842 : decode code 842 = .ok (.iload_n 3, 1) := by decide +kernel
theorem eL_law_843 : decode code 843 = .ok (.iconst 2, 1) := by decide +kernel
theorem eL_law_844 : decode code 844 = .ok (.iadd, 1) := by decide +kernel
theorem eL_law_845 : decode code 845 = .ok (.iaload, 1) := by decide +kernel
theorem eL_law_846 : decode code 846 = .ok (.aload_n 0, 1) := by decide +kernel
theorem eL_law_847 : decode code 847 = .ok (.iload_n 3, 1) := by decide +kernel
theorem eL_law_848 : decode code 848 = .ok (.iconst 3, 1) := by decide +kernel
theorem eL_law_849 : decode code 849 = .ok (.iadd, 1) := by decide +kernel
theorem eL_law_850 : decode code 850 = .ok (.iaload, 1) := by decide +kernel
theorem eL_law_851 : decode code 851 = .ok (.invokevirtual 99, 3) := by decide +kernel
theorem eL_law_854 : decode code 854 = .ok (.if_icmp .eq 474, 3) := by decide +kernel
theorem eL_law_857 : decode code 857 = .ok (.iconst 0, 1) := by decide +kernel
theorem eL_law_859 : decode code 859 = .ok (.aload_n 1, 1) := by decide +kernel
theorem eL_law_860 : decode code 860 = .ok (.aload_n 0, 1) := by decide +kernel
theorem eL_law_861 : decode code 861 = .ok (.iload_n 3, 1) := by decide +kernel
theorem eL_law_862 : decode code 862 = .ok (.iconst 1, 1) := by decide +kernel
theorem eL_law_863 : decode code 863 = .ok (.iadd, 1) := by decide +kernel
theorem eL_law_864 : decode code 864 = .ok (.iaload, 1) := by decide +kernel
theorem eL_law_865 : decode code 865 = .ok (.aload_n 0, 1) := by decide +kernel
theorem eL_law_866 : decode code 866 = .ok (.iload_n 3, 1) := by decide +kernel
theorem eL_law_867 : decode code 867 = .ok (.iconst 2, 1) := by decide +kernel
theorem eL_law_868 : decode code 868 = .ok (.iadd, 1) := by decide +kernel
theorem eL_law_869 : decode code 869 = .ok (.iaload, 1) := by decide +kernel
theorem eL_law_870 : decode code 870 = .ok (.invokevirtual 100, 3) := by decide +kernel
theorem eL_law_873 : decode code 873 = .ok (.aload_n 2, 1) := by decide +kernel
theorem eL_law_874 : decode code 874 = .ok (.aload_n 0, 1) := by decide +kernel
theorem eL_law_875 : decode code 875 = .ok (.iload_n 3, 1) := by decide +kernel
theorem eL_law_876 : decode code 876 = .ok (.iconst 1, 1) := by decide +kernel
theorem eL_law_877 : decode code 877 = .ok (.iadd, 1) := by decide +kernel
theorem eL_law_878 : decode code 878 = .ok (.iaload, 1) := by decide +kernel
theorem eL_law_879 : decode code 879 = .ok (.aload_n 0, 1) := by decide +kernel
theorem eL_law_880 : decode code 880 = .ok (.iload_n 3, 1) := by decide +kernel
theorem eL_law_881 : decode code 881 = .ok (.iconst 2, 1) := by decide +kernel
theorem eL_law_882 : decode code 882 = .ok (.iadd, 1) := by decide +kernel
theorem eL_law_883 : decode code 883 = .ok (.iaload, 1) := by decide +kernel
theorem eL_law_884 : decode code 884 = .ok (.invokevirtual 103, 3) := by decide +kernel
theorem eL_law_887 : decode code 887 = .ok (.if_icmp .eq 441, 3) := by decide +kernel
theorem eL_law_890 : decode code 890 = .ok (.iconst 0, 1) := by decide +kernel
theorem eL_law_892 : decode code 892 = .ok (.aload_n 1, 1) := by decide +kernel
theorem eL_law_893 : decode code 893 = .ok (.aload_n 0, 1) := by decide +kernel
theorem eL_law_894 : decode code 894 = .ok (.iload_n 3, 1) := by decide +kernel
theorem eL_law_895 : decode code 895 = .ok (.iconst 1, 1) := by decide +kernel
theorem eL_law_896 : decode code 896 = .ok (.iadd, 1) := by decide +kernel
theorem eL_law_897 : decode code 897 = .ok (.iaload, 1) := by decide +kernel
theorem eL_law_898 : decode code 898 = .ok (.invokevirtual 104, 3) := by decide +kernel
theorem eL_law_901 : decode code 901 = .ok (.aload_n 2, 1) := by decide +kernel
theorem eL_law_902 : decode code 902 = .ok (.aload_n 0, 1) := by decide +kernel
theorem eL_law_903 : decode code 903 = .ok (.iload_n 3, 1) := by decide +kernel
theorem eL_law_904 : decode code 904 = .ok (.iconst 1, 1) := by decide +kernel
theorem eL_law_905 : decode code 905 = .ok (.iadd, 1) := by decide +kernel
theorem eL_law_906 : decode code 906 = .ok (.iaload, 1) := by decide +kernel
theorem eL_law_907 : decode code 907 = .ok (.invokevirtual 107, 3) := by decide +kernel
theorem eL_law_910 : decode code 910 = .ok (.if_icmp .eq 418, 3) := by decide +kernel
theorem eL_law_913 : decode code 913 = .ok (.iconst 0, 1) := by decide +kernel
theorem eL_law_915 : decode code 915 = .ok (.aload_n 1, 1) := by decide +kernel
theorem eL_law_916 : decode code 916 = .ok (.aload_n 0, 1) := by decide +kernel
theorem eL_law_917 : decode code 917 = .ok (.iload_n 3, 1) := by decide +kernel
theorem eL_law_918 : decode code 918 = .ok (.iconst 1, 1) := by decide +kernel
theorem eL_law_919 : decode code 919 = .ok (.iadd, 1) := by decide +kernel
theorem eL_law_920 : decode code 920 = .ok (.iaload, 1) := by decide +kernel
theorem eL_law_921 : decode code 921 = .ok (.aload_n 0, 1) := by decide +kernel
theorem eL_law_922 : decode code 922 = .ok (.iload_n 3, 1) := by decide +kernel
theorem eL_law_923 : decode code 923 = .ok (.iconst 2, 1) := by decide +kernel
theorem eL_law_924 : decode code 924 = .ok (.iadd, 1) := by decide +kernel
theorem eL_law_925 : decode code 925 = .ok (.iaload, 1) := by decide +kernel
theorem eL_law_926 : decode code 926 = .ok (.invokevirtual 108, 3) := by decide +kernel
theorem eL_law_929 : decode code 929 = .ok (.aload_n 2, 1) := by decide +kernel
theorem eL_law_930 : decode code 930 = .ok (.aload_n 0, 1) := by decide +kernel
theorem eL_law_931 : decode code 931 = .ok (.iload_n 3, 1) := by decide +kernel
theorem eL_law_932 : decode code 932 = .ok (.iconst 1, 1) := by decide +kernel
theorem eL_law_933 : decode code 933 = .ok (.iadd, 1) := by decide +kernel
theorem eL_law_934 : decode code 934 = .ok (.iaload, 1) := by decide +kernel
theorem eL_law_935 : decode code 935 = .ok (.aload_n 0, 1) := by decide +kernel
theorem eL_law_936 : decode code 936 = .ok (.iload_n 3, 1) := by decide +kernel
theorem eL_law_937 : decode code 937 = .ok (.iconst 2, 1) := by decide +kernel
theorem eL_law_938 : decode code 938 = .ok (.iadd, 1) := by decide +kernel
theorem eL_law_939 : decode code 939 = .ok (.iaload, 1) := by decide +kernel
theorem eL_law_940 : decode code 940 = .ok (.invokevirtual 111, 3) := by decide +kernel
theorem eL_law_943 : decode code 943 = .ok (.if_icmp .eq 385, 3) := by decide +kernel
theorem eL_law_946 : decode code 946 = .ok (.iconst 0, 1) := by decide +kernel
theorem eL_law_948 : decode code 948 = .ok (.aload_n 1, 1) := by decide +kernel
theorem eL_law_949 : decode code 949 = .ok (.invokevirtual 112, 3) := by decide +kernel
theorem eL_law_952 : decode code 952 = .ok (.aload_n 2, 1) := by decide +kernel
theorem eL_law_953 : decode code 953 = .ok (.invokevirtual 116, 3) := by decide +kernel
theorem eL_law_956 : decode code 956 = .ok (.if_icmp .eq 372, 3) := by decide +kernel
theorem eL_law_959 : decode code 959 = .ok (.iconst 0, 1) := by decide +kernel
theorem eL_law_961 : decode code 961 = .ok (.aload_n 1, 1) := by decide +kernel
theorem eL_law_962 : decode code 962 = .ok (.invokevirtual 117, 3) := by decide +kernel
theorem eL_law_965 : decode code 965 = .ok (.aload_n 2, 1) := by decide +kernel
theorem eL_law_966 : decode code 966 = .ok (.invokevirtual 120, 3) := by decide +kernel
theorem eL_law_969 : decode code 969 = .ok (.if_icmp .eq 359, 3) := by decide +kernel
theorem eL_law_972 : decode code 972 = .ok (.iconst 0, 1) := by decide +kernel
theorem eL_law_974 : decode code 974 = .ok (.aload_n 1, 1) := by decide +kernel
theorem eL_law_975 : decode code 975 = .ok (.aload_n 0, 1) := by decide +kernel
theorem eL_law_976 : decode code 976 = .ok (.iload_n 3, 1) := by decide +kernel
theorem eL_law_977 : decode code 977 = .ok (.iconst 1, 1) := by decide +kernel
theorem eL_law_978 : decode code 978 = .ok (.iadd, 1) := by decide +kernel
theorem eL_law_979 : decode code 979 = .ok (.iaload, 1) := by decide +kernel
theorem eL_law_980 : decode code 980 = .ok (.aload_n 0, 1) := by decide +kernel
theorem eL_law_981 : decode code 981 = .ok (.iload_n 3, 1) := by decide +kernel
theorem eL_law_982 : decode code 982 = .ok (.iconst 2, 1) := by decide +kernel
theorem eL_law_983 : decode code 983 = .ok (.iadd, 1) := by decide +kernel
theorem eL_law_984 : decode code 984 = .ok (.iaload, 1) := by decide +kernel
theorem eL_law_985 : decode code 985 = .ok (.aload_n 0, 1) := by decide +kernel
theorem eL_law_986 : decode code 986 = .ok (.iload_n 3, 1) := by decide +kernel
theorem eL_law_987 : decode code 987 = .ok (.iconst 3, 1) := by decide +kernel
theorem eL_law_988 : decode code 988 = .ok (.iadd, 1) := by decide +kernel
theorem eL_law_989 : decode code 989 = .ok (.iaload, 1) := by decide +kernel
theorem eL_law_990 : decode code 990 = .ok (.invokevirtual 121, 3) := by decide +kernel
theorem eL_law_993 : decode code 993 = .ok (.aload_n 2, 1) := by decide +kernel
theorem eL_law_994 : decode code 994 = .ok (.aload_n 0, 1) := by decide +kernel
theorem eL_law_995 : decode code 995 = .ok (.iload_n 3, 1) := by decide +kernel
theorem eL_law_996 : decode code 996 = .ok (.iconst 1, 1) := by decide +kernel
theorem eL_law_997 : decode code 997 = .ok (.iadd, 1) := by decide +kernel
theorem eL_law_998 : decode code 998 = .ok (.iaload, 1) := by decide +kernel
theorem eL_law_999 : decode code 999 = .ok (.aload_n 0, 1) := by decide +kernel
theorem eL_law_1000 : decode code 1000 = .ok (.iload_n 3, 1) := by decide +kernel
theorem eL_law_1001 : decode code 1001 = .ok (.iconst 2, 1) := by decide +kernel
theorem eL_law_1002 : decode code 1002 = .ok (.iadd, 1) := by decide +kernel
theorem eL_law_1003 : decode code 1003 = .ok (.iaload, 1) := by decide +kernel
theorem eL_law_1004 : decode code 1004 = .ok (.aload_n 0, 1) := by decide +kernel
theorem eL_law_1005 : decode code 1005 = .ok (.iload_n 3, 1) := by decide +kernel
theorem eL_law_1006 : decode code 1006 = .ok (.iconst 3, 1) := by decide +kernel
theorem eL_law_1007 : decode code 1007 = .ok (.iadd, 1) := by decide +kernel
theorem eL_law_1008 : decode code 1008 = .ok (.iaload, 1) := by decide +kernel
theorem eL_law_1009 : decode code 1009 = .ok (.invokevirtual 124, 3) := by decide +kernel
theorem eL_law_1012 : decode code 1012 = .ok (.if_icmp .eq 316, 3) := by decide +kernel
theorem eL_law_1015 : decode code 1015 = .ok (.iconst 0, 1) := by decide +kernel
theorem eL_law_1017 : decode code 1017 = .ok (.aload_n 1, 1) := by decide +kernel
theorem eL_law_1018 : decode code 1018 = .ok (.aload_n 0, 1) := by decide +kernel
theorem eL_law_1019 : decode code 1019 = .ok (.iload_n 3, 1) := by decide +kernel
theorem eL_law_1020 : decode code 1020 = .ok (.iconst 1, 1) := by decide +kernel
theorem eL_law_1021 : decode code 1021 = .ok (.iadd, 1) := by decide +kernel
theorem eL_law_1022 : decode code 1022 = .ok (.iaload, 1) := by decide +kernel
theorem eL_law_1023 : decode code 1023 = .ok (.aload_n 0, 1) := by decide +kernel
theorem eL_law_1024 : decode code 1024 = .ok (.iload_n 3, 1) := by decide +kernel
theorem eL_law_1025 : decode code 1025 = .ok (.iconst 2, 1) := by decide +kernel
theorem eL_law_1026 : decode code 1026 = .ok (.iadd, 1) := by decide +kernel
theorem eL_law_1027 : decode code 1027 = .ok (.iaload, 1) := by decide +kernel
theorem eL_law_1028 : decode code 1028 = .ok (.aload_n 0, 1) := by decide +kernel
theorem eL_law_1029 : decode code 1029 = .ok (.iload_n 3, 1) := by decide +kernel
theorem eL_law_1030 : decode code 1030 = .ok (.iconst 3, 1) := by decide +kernel
theorem eL_law_1031 : decode code 1031 = .ok (.iadd, 1) := by decide +kernel
theorem eL_law_1032 : decode code 1032 = .ok (.iaload, 1) := by decide +kernel
theorem eL_law_1033 : decode code 1033 = .ok (.i2l, 1) := by decide +kernel
theorem eL_law_1034 : decode code 1034 = .ok (.bipush 32, 2) := by decide +kernel
theorem eL_law_1036 : decode code 1036 = .ok (.lshl, 1) := by decide +kernel
theorem eL_law_1037 : decode code 1037 = .ok (.aload_n 0, 1) := by decide +kernel
theorem eL_law_1038 : decode code 1038 = .ok (.iload_n 3, 1) := by decide +kernel
theorem eL_law_1039 : decode code 1039 = .ok (.iconst 4, 1) := by decide +kernel
theorem eL_law_1040 : decode code 1040 = .ok (.iadd, 1) := by decide +kernel
theorem eL_law_1041 : decode code 1041 = .ok (.iaload, 1) := by decide +kernel
theorem eL_law_1042 : decode code 1042 = .ok (.i2l, 1) := by decide +kernel
theorem eL_law_1043 : decode code 1043 = .ok (.ldc2_w 125, 3) := by decide +kernel
theorem eL_law_1046 : decode code 1046 = .ok (.land, 1) := by decide +kernel
theorem eL_law_1047 : decode code 1047 = .ok (.lor, 1) := by decide +kernel
theorem eL_law_1048 : decode code 1048 = .ok (.invokevirtual 127, 3) := by decide +kernel
theorem eL_law_1051 : decode code 1051 = .ok (.aload_n 2, 1) := by decide +kernel
theorem eL_law_1052 : decode code 1052 = .ok (.aload_n 0, 1) := by decide +kernel
theorem eL_law_1053 : decode code 1053 = .ok (.iload_n 3, 1) := by decide +kernel
theorem eL_law_1054 : decode code 1054 = .ok (.iconst 1, 1) := by decide +kernel
theorem eL_law_1055 : decode code 1055 = .ok (.iadd, 1) := by decide +kernel
theorem eL_law_1056 : decode code 1056 = .ok (.iaload, 1) := by decide +kernel
theorem eL_law_1057 : decode code 1057 = .ok (.aload_n 0, 1) := by decide +kernel
theorem eL_law_1058 : decode code 1058 = .ok (.iload_n 3, 1) := by decide +kernel
theorem eL_law_1059 : decode code 1059 = .ok (.iconst 2, 1) := by decide +kernel
theorem eL_law_1060 : decode code 1060 = .ok (.iadd, 1) := by decide +kernel
theorem eL_law_1061 : decode code 1061 = .ok (.iaload, 1) := by decide +kernel
theorem eL_law_1062 : decode code 1062 = .ok (.aload_n 0, 1) := by decide +kernel
theorem eL_law_1063 : decode code 1063 = .ok (.iload_n 3, 1) := by decide +kernel
theorem eL_law_1064 : decode code 1064 = .ok (.iconst 3, 1) := by decide +kernel
theorem eL_law_1065 : decode code 1065 = .ok (.iadd, 1) := by decide +kernel
theorem eL_law_1066 : decode code 1066 = .ok (.iaload, 1) := by decide +kernel
theorem eL_law_1067 : decode code 1067 = .ok (.i2l, 1) := by decide +kernel
theorem eL_law_1068 : decode code 1068 = .ok (.bipush 32, 2) := by decide +kernel
theorem eL_law_1070 : decode code 1070 = .ok (.lshl, 1) := by decide +kernel
theorem eL_law_1071 : decode code 1071 = .ok (.aload_n 0, 1) := by decide +kernel
theorem eL_law_1072 : decode code 1072 = .ok (.iload_n 3, 1) := by decide +kernel
theorem eL_law_1073 : decode code 1073 = .ok (.iconst 4, 1) := by decide +kernel
theorem eL_law_1074 : decode code 1074 = .ok (.iadd, 1) := by decide +kernel
theorem eL_law_1075 : decode code 1075 = .ok (.iaload, 1) := by decide +kernel
theorem eL_law_1076 : decode code 1076 = .ok (.i2l, 1) := by decide +kernel
theorem eL_law_1077 : decode code 1077 = .ok (.ldc2_w 125, 3) := by decide +kernel
theorem eL_law_1080 : decode code 1080 = .ok (.land, 1) := by decide +kernel
theorem eL_law_1081 : decode code 1081 = .ok (.lor, 1) := by decide +kernel
theorem eL_law_1082 : decode code 1082 = .ok (.invokevirtual 131, 3) := by decide +kernel
theorem eL_law_1085 : decode code 1085 = .ok (.lcmp, 1) := by decide +kernel
theorem eL_law_1086 : decode code 1086 = .ok (.ifCond .eq 242, 3) := by decide +kernel
theorem eL_law_1089 : decode code 1089 = .ok (.iconst 0, 1) := by decide +kernel
theorem eL_law_1091 : decode code 1091 = .ok (.aload_n 1, 1) := by decide +kernel
theorem eL_law_1092 : decode code 1092 = .ok (.aload_n 0, 1) := by decide +kernel
theorem eL_law_1093 : decode code 1093 = .ok (.iload_n 3, 1) := by decide +kernel
theorem eL_law_1094 : decode code 1094 = .ok (.iconst 1, 1) := by decide +kernel
theorem eL_law_1095 : decode code 1095 = .ok (.iadd, 1) := by decide +kernel
theorem eL_law_1096 : decode code 1096 = .ok (.iaload, 1) := by decide +kernel
theorem eL_law_1097 : decode code 1097 = .ok (.aload_n 0, 1) := by decide +kernel
theorem eL_law_1098 : decode code 1098 = .ok (.iload_n 3, 1) := by decide +kernel
theorem eL_law_1099 : decode code 1099 = .ok (.iconst 2, 1) := by decide +kernel
theorem eL_law_1100 : decode code 1100 = .ok (.iadd, 1) := by decide +kernel
theorem eL_law_1101 : decode code 1101 = .ok (.iaload, 1) := by decide +kernel
theorem eL_law_1102 : decode code 1102 = .ok (.aload_n 0, 1) := by decide +kernel
theorem eL_law_1103 : decode code 1103 = .ok (.iload_n 3, 1) := by decide +kernel
theorem eL_law_1104 : decode code 1104 = .ok (.iconst 3, 1) := by decide +kernel
theorem eL_law_1105 : decode code 1105 = .ok (.iadd, 1) := by decide +kernel
theorem eL_law_1106 : decode code 1106 = .ok (.iaload, 1) := by decide +kernel
theorem eL_law_1107 : decode code 1107 = .ok (.aload_n 0, 1) := by decide +kernel
theorem eL_law_1108 : decode code 1108 = .ok (.iload_n 3, 1) := by decide +kernel
theorem eL_law_1109 : decode code 1109 = .ok (.iconst 4, 1) := by decide +kernel
theorem eL_law_1110 : decode code 1110 = .ok (.iadd, 1) := by decide +kernel
theorem eL_law_1111 : decode code 1111 = .ok (.iaload, 1) := by decide +kernel
theorem eL_law_1112 : decode code 1112 = .ok (.aload_n 0, 1) := by decide +kernel
theorem eL_law_1113 : decode code 1113 = .ok (.iload_n 3, 1) := by decide +kernel
theorem eL_law_1114 : decode code 1114 = .ok (.iconst 5, 1) := by decide +kernel
theorem eL_law_1115 : decode code 1115 = .ok (.iadd, 1) := by decide +kernel
theorem eL_law_1116 : decode code 1116 = .ok (.iaload, 1) := by decide +kernel
theorem eL_law_1117 : decode code 1117 = .ok (.invokevirtual 132, 3) := by decide +kernel
theorem eL_law_1120 : decode code 1120 = .ok (.aload_n 2, 1) := by decide +kernel
theorem eL_law_1121 : decode code 1121 = .ok (.aload_n 0, 1) := by decide +kernel
theorem eL_law_1122 : decode code 1122 = .ok (.iload_n 3, 1) := by decide +kernel
theorem eL_law_1123 : decode code 1123 = .ok (.iconst 1, 1) := by decide +kernel
theorem eL_law_1124 : decode code 1124 = .ok (.iadd, 1) := by decide +kernel
theorem eL_law_1125 : decode code 1125 = .ok (.iaload, 1) := by decide +kernel
theorem eL_law_1126 : decode code 1126 = .ok (.aload_n 0, 1) := by decide +kernel
theorem eL_law_1127 : decode code 1127 = .ok (.iload_n 3, 1) := by decide +kernel
theorem eL_law_1128 : decode code 1128 = .ok (.iconst 2, 1) := by decide +kernel
theorem eL_law_1129 : decode code 1129 = .ok (.iadd, 1) := by decide +kernel
theorem eL_law_1130 : decode code 1130 = .ok (.iaload, 1) := by decide +kernel
theorem eL_law_1131 : decode code 1131 = .ok (.aload_n 0, 1) := by decide +kernel
theorem eL_law_1132 : decode code 1132 = .ok (.iload_n 3, 1) := by decide +kernel
theorem eL_law_1133 : decode code 1133 = .ok (.iconst 3, 1) := by decide +kernel
theorem eL_law_1134 : decode code 1134 = .ok (.iadd, 1) := by decide +kernel
theorem eL_law_1135 : decode code 1135 = .ok (.iaload, 1) := by decide +kernel
theorem eL_law_1136 : decode code 1136 = .ok (.aload_n 0, 1) := by decide +kernel
theorem eL_law_1137 : decode code 1137 = .ok (.iload_n 3, 1) := by decide +kernel
theorem eL_law_1138 : decode code 1138 = .ok (.iconst 4, 1) := by decide +kernel
theorem eL_law_1139 : decode code 1139 = .ok (.iadd, 1) := by decide +kernel
theorem eL_law_1140 : decode code 1140 = .ok (.iaload, 1) := by decide +kernel
theorem eL_law_1141 : decode code 1141 = .ok (.aload_n 0, 1) := by decide +kernel
theorem eL_law_1142 : decode code 1142 = .ok (.iload_n 3, 1) := by decide +kernel
theorem eL_law_1143 : decode code 1143 = .ok (.iconst 5, 1) := by decide +kernel
theorem eL_law_1144 : decode code 1144 = .ok (.iadd, 1) := by decide +kernel
theorem eL_law_1145 : decode code 1145 = .ok (.iaload, 1) := by decide +kernel
theorem eL_law_1146 : decode code 1146 = .ok (.invokevirtual 136, 3) := by decide +kernel
theorem eL_law_1149 : decode code 1149 = .ok (.if_icmp .eq 179, 3) := by decide +kernel
theorem eL_law_1152 : decode code 1152 = .ok (.iconst 0, 1) := by decide +kernel
theorem eL_law_1154 : decode code 1154 = .ok (.aload_n 1, 1) := by decide +kernel
theorem eL_law_1155 : decode code 1155 = .ok (.aload_n 0, 1) := by decide +kernel
theorem eL_law_1156 : decode code 1156 = .ok (.iload_n 3, 1) := by decide +kernel
theorem eL_law_1157 : decode code 1157 = .ok (.iconst 1, 1) := by decide +kernel
theorem eL_law_1158 : decode code 1158 = .ok (.iadd, 1) := by decide +kernel
theorem eL_law_1159 : decode code 1159 = .ok (.iaload, 1) := by decide +kernel
theorem eL_law_1160 : decode code 1160 = .ok (.invokevirtual 137, 3) := by decide +kernel
theorem eL_law_1163 : decode code 1163 = .ok (.aload_n 2, 1) := by decide +kernel
theorem eL_law_1164 : decode code 1164 = .ok (.aload_n 0, 1) := by decide +kernel
theorem eL_law_1165 : decode code 1165 = .ok (.iload_n 3, 1) := by decide +kernel
theorem eL_law_1166 : decode code 1166 = .ok (.iconst 1, 1) := by decide +kernel
theorem eL_law_1167 : decode code 1167 = .ok (.iadd, 1) := by decide +kernel
theorem eL_law_1168 : decode code 1168 = .ok (.iaload, 1) := by decide +kernel
theorem eL_law_1169 : decode code 1169 = .ok (.invokevirtual 140, 3) := by decide +kernel
theorem eL_law_1172 : decode code 1172 = .ok (.if_icmp .eq 156, 3) := by decide +kernel
theorem eL_law_1175 : decode code 1175 = .ok (.iconst 0, 1) := by decide +kernel
theorem eL_law_1177 : decode code 1177 = .ok (.aload_n 1, 1) := by decide +kernel
theorem eL_law_1178 : decode code 1178 = .ok (.aload_n 0, 1) := by decide +kernel
theorem eL_law_1179 : decode code 1179 = .ok (.iload_n 3, 1) := by decide +kernel
theorem eL_law_1180 : decode code 1180 = .ok (.iconst 1, 1) := by decide +kernel
theorem eL_law_1181 : decode code 1181 = .ok (.iadd, 1) := by decide +kernel
theorem eL_law_1182 : decode code 1182 = .ok (.iaload, 1) := by decide +kernel
theorem eL_law_1183 : decode code 1183 = .ok (.aload_n 0, 1) := by decide +kernel
theorem eL_law_1184 : decode code 1184 = .ok (.iload_n 3, 1) := by decide +kernel
theorem eL_law_1185 : decode code 1185 = .ok (.iconst 2, 1) := by decide +kernel
theorem eL_law_1186 : decode code 1186 = .ok (.iadd, 1) := by decide +kernel
theorem eL_law_1187 : decode code 1187 = .ok (.iaload, 1) := by decide +kernel
theorem eL_law_1188 : decode code 1188 = .ok (.invokevirtual 141, 3) := by decide +kernel
theorem eL_law_1191 : decode code 1191 = .ok (.aload_n 2, 1) := by decide +kernel
theorem eL_law_1192 : decode code 1192 = .ok (.aload_n 0, 1) := by decide +kernel
theorem eL_law_1193 : decode code 1193 = .ok (.iload_n 3, 1) := by decide +kernel
theorem eL_law_1194 : decode code 1194 = .ok (.iconst 1, 1) := by decide +kernel
theorem eL_law_1195 : decode code 1195 = .ok (.iadd, 1) := by decide +kernel
theorem eL_law_1196 : decode code 1196 = .ok (.iaload, 1) := by decide +kernel
theorem eL_law_1197 : decode code 1197 = .ok (.aload_n 0, 1) := by decide +kernel
theorem eL_law_1198 : decode code 1198 = .ok (.iload_n 3, 1) := by decide +kernel
theorem eL_law_1199 : decode code 1199 = .ok (.iconst 2, 1) := by decide +kernel
theorem eL_law_1200 : decode code 1200 = .ok (.iadd, 1) := by decide +kernel
theorem eL_law_1201 : decode code 1201 = .ok (.iaload, 1) := by decide +kernel
theorem eL_law_1202 : decode code 1202 = .ok (.invokevirtual 144, 3) := by decide +kernel
theorem eL_law_1205 : decode code 1205 = .ok (.if_icmp .eq 123, 3) := by decide +kernel
theorem eL_law_1208 : decode code 1208 = .ok (.iconst 0, 1) := by decide +kernel
theorem eL_law_1210 : decode code 1210 = .ok (.aload_n 1, 1) := by decide +kernel
theorem eL_law_1211 : decode code 1211 = .ok (.aload_n 0, 1) := by decide +kernel
theorem eL_law_1212 : decode code 1212 = .ok (.iload_n 3, 1) := by decide +kernel
theorem eL_law_1213 : decode code 1213 = .ok (.iconst 1, 1) := by decide +kernel
theorem eL_law_1214 : decode code 1214 = .ok (.iadd, 1) := by decide +kernel
theorem eL_law_1215 : decode code 1215 = .ok (.iaload, 1) := by decide +kernel
theorem eL_law_1216 : decode code 1216 = .ok (.aload_n 0, 1) := by decide +kernel
theorem eL_law_1217 : decode code 1217 = .ok (.iload_n 3, 1) := by decide +kernel
theorem eL_law_1218 : decode code 1218 = .ok (.iconst 2, 1) := by decide +kernel
theorem eL_law_1219 : decode code 1219 = .ok (.iadd, 1) := by decide +kernel
theorem eL_law_1220 : decode code 1220 = .ok (.iaload, 1) := by decide +kernel
theorem eL_law_1221 : decode code 1221 = .ok (.invokevirtual 145, 3) := by decide +kernel
theorem eL_law_1224 : decode code 1224 = .ok (.aload_n 2, 1) := by decide +kernel
theorem eL_law_1225 : decode code 1225 = .ok (.aload_n 0, 1) := by decide +kernel
theorem eL_law_1226 : decode code 1226 = .ok (.iload_n 3, 1) := by decide +kernel
theorem eL_law_1227 : decode code 1227 = .ok (.iconst 1, 1) := by decide +kernel
theorem eL_law_1228 : decode code 1228 = .ok (.iadd, 1) := by decide +kernel
theorem eL_law_1229 : decode code 1229 = .ok (.iaload, 1) := by decide +kernel
theorem eL_law_1230 : decode code 1230 = .ok (.aload_n 0, 1) := by decide +kernel
theorem eL_law_1231 : decode code 1231 = .ok (.iload_n 3, 1) := by decide +kernel
theorem eL_law_1232 : decode code 1232 = .ok (.iconst 2, 1) := by decide +kernel
theorem eL_law_1233 : decode code 1233 = .ok (.iadd, 1) := by decide +kernel
theorem eL_law_1234 : decode code 1234 = .ok (.iaload, 1) := by decide +kernel
theorem eL_law_1235 : decode code 1235 = .ok (.invokevirtual 148, 3) := by decide +kernel
theorem eL_law_1238 : decode code 1238 = .ok (.if_icmp .eq 90, 3) := by decide +kernel
theorem eL_law_1241 : decode code 1241 = .ok (.iconst 0, 1) := by decide +kernel
theorem eL_law_1243 : decode code 1243 = .ok (.aload_n 1, 1) := by decide +kernel
theorem eL_law_1244 : decode code 1244 = .ok (.invokevirtual 149, 3) := by decide +kernel
theorem eL_law_1247 : decode code 1247 = .ok (.aload_n 2, 1) := by decide +kernel
theorem eL_law_1248 : decode code 1248 = .ok (.invokevirtual 152, 3) := by decide +kernel
theorem eL_law_1251 : decode code 1251 = .ok (.if_icmp .eq 77, 3) := by decide +kernel
theorem eL_law_1254 : decode code 1254 = .ok (.iconst 0, 1) := by decide +kernel
theorem eL_law_1256 : decode code 1256 = .ok (.aload_n 1, 1) := by decide +kernel
theorem eL_law_1257 : decode code 1257 = .ok (.invokevirtual 153, 3) := by decide +kernel
theorem eL_law_1260 : decode code 1260 = .ok (.aload_n 2, 1) := by decide +kernel
theorem eL_law_1261 : decode code 1261 = .ok (.invokevirtual 156, 3) := by decide +kernel
theorem eL_law_1264 : decode code 1264 = .ok (.if_icmp .eq 64, 3) := by decide +kernel
theorem eL_law_1267 : decode code 1267 = .ok (.iconst 0, 1) := by decide +kernel
theorem eL_law_1269 : decode code 1269 = .ok (.aload_n 1, 1) := by decide +kernel
theorem eL_law_1270 : decode code 1270 = .ok (.invokevirtual 157, 3) := by decide +kernel
theorem eL_law_1273 : decode code 1273 = .ok (.aload_n 2, 1) := by decide +kernel
theorem eL_law_1274 : decode code 1274 = .ok (.invokevirtual 160, 3) := by decide +kernel
theorem eL_law_1277 : decode code 1277 = .ok (.if_icmp .eq 51, 3) := by decide +kernel
theorem eL_law_1280 : decode code 1280 = .ok (.iconst 0, 1) := by decide +kernel
theorem eL_law_1282 : decode code 1282 = .ok (.aload_n 1, 1) := by decide +kernel
theorem eL_law_1283 : decode code 1283 = .ok (.aload_n 0, 1) := by decide +kernel
theorem eL_law_1284 : decode code 1284 = .ok (.iload_n 3, 1) := by decide +kernel
theorem eL_law_1285 : decode code 1285 = .ok (.iconst 1, 1) := by decide +kernel
theorem eL_law_1286 : decode code 1286 = .ok (.iadd, 1) := by decide +kernel
theorem eL_law_1287 : decode code 1287 = .ok (.iaload, 1) := by decide +kernel
theorem eL_law_1288 : decode code 1288 = .ok (.invokevirtual 161, 3) := by decide +kernel
theorem eL_law_1291 : decode code 1291 = .ok (.aload_n 2, 1) := by decide +kernel
theorem eL_law_1292 : decode code 1292 = .ok (.aload_n 0, 1) := by decide +kernel
theorem eL_law_1293 : decode code 1293 = .ok (.iload_n 3, 1) := by decide +kernel
theorem eL_law_1294 : decode code 1294 = .ok (.iconst 1, 1) := by decide +kernel
theorem eL_law_1295 : decode code 1295 = .ok (.iadd, 1) := by decide +kernel
theorem eL_law_1296 : decode code 1296 = .ok (.iaload, 1) := by decide +kernel
theorem eL_law_1297 : decode code 1297 = .ok (.invokevirtual 164, 3) := by decide +kernel
theorem eL_law_1300 : decode code 1300 = .ok (.if_icmp .eq 28, 3) := by decide +kernel
theorem eL_law_1303 : decode code 1303 = .ok (.iconst 0, 1) := by decide +kernel
theorem eL_law_1305 : decode code 1305 = .ok (.aload_n 1, 1) := by decide +kernel
theorem eL_law_1306 : decode code 1306 = .ok (.aload_n 0, 1) := by decide +kernel
theorem eL_law_1307 : decode code 1307 = .ok (.iload_n 3, 1) := by decide +kernel
theorem eL_law_1308 : decode code 1308 = .ok (.iconst 1, 1) := by decide +kernel
theorem eL_law_1309 : decode code 1309 = .ok (.iadd, 1) := by decide +kernel
theorem eL_law_1310 : decode code 1310 = .ok (.iaload, 1) := by decide +kernel
theorem eL_law_1311 : decode code 1311 = .ok (.invokevirtual 165, 3) := by decide +kernel
theorem eL_law_1314 : decode code 1314 = .ok (.aload_n 2, 1) := by decide +kernel
theorem eL_law_1315 : decode code 1315 = .ok (.aload_n 0, 1) := by decide +kernel
theorem eL_law_1316 : decode code 1316 = .ok (.iload_n 3, 1) := by decide +kernel
theorem eL_law_1317 : decode code 1317 = .ok (.iconst 1, 1) := by decide +kernel
theorem eL_law_1318 : decode code 1318 = .ok (.iadd, 1) := by decide +kernel
theorem eL_law_1319 : decode code 1319 = .ok (.iaload, 1) := by decide +kernel
theorem eL_law_1320 : decode code 1320 = .ok (.invokevirtual 168, 3) := by decide +kernel
theorem eL_law_1323 : decode code 1323 = .ok (.if_icmp .eq 5, 3) := by decide +kernel
theorem eL_law_1326 : decode code 1326 = .ok (.iconst 0, 1) := by decide +kernel
theorem eL_law_1328 : decode code 1328 = .ok (.iinc 3 6, 3) := by decide +kernel
theorem eL_law_1331 : decode code 1331 = .ok (.goto (-1313), 3) := by decide +kernel
theorem eL_law_1334 : decode code 1334 = .ok (.iconst 1, 1) := by decide +kernel
theorem eL_law_1335 : decode code 1335 = .ok (.ireturn, 1) := by decide +kernel
def dL_law_18 (LL : Nat) (xs : Nat → Int32) (f : Nat) : Nat → Int32 → Mem → Option (Int32 × Mem)
  | 0, _, _ => none
  | n + 1, x3, mem => if ((Int32.ofNat LL) - (6 : Int32)) < x3 then (some ((1 : Int32), mem)) else (ck x3 LL (if ((xs x3.toNatClampNeg) &&& (63 : Int32)) = (0 : Int32) then (ck (x3 + (1 : Int32)) LL (ck (x3 + (2 : Int32)) LL (bd (dW_rota f (xs (x3 + (1 : Int32)).toNatClampNeg) (xs (x3 + (2 : Int32)).toNatClampNeg) mem) (fun r1 m1 => ck (x3 + (1 : Int32)) LL (ck (x3 + (2 : Int32)) LL (bd (dM_rota f (xs (x3 + (1 : Int32)).toNatClampNeg) (xs (x3 + (2 : Int32)).toNatClampNeg) m1) (fun r2 m2 => if r1 = r2 then (dL_law_18 LL xs f n (x3 + (6 : Int32)) m2) else (some ((0 : Int32), m2))))))))) else (if ((xs x3.toNatClampNeg) &&& (63 : Int32)) = (1 : Int32) then (ck (x3 + (1 : Int32)) LL (ck (x3 + (2 : Int32)) LL (ck (x3 + (3 : Int32)) LL (bd (dW_wall f (xs (x3 + (1 : Int32)).toNatClampNeg) (xs (x3 + (2 : Int32)).toNatClampNeg) (xs (x3 + (3 : Int32)).toNatClampNeg) mem) (fun r3 m3 => ck (x3 + (1 : Int32)) LL (ck (x3 + (2 : Int32)) LL (ck (x3 + (3 : Int32)) LL (bd (dM_wall f (xs (x3 + (1 : Int32)).toNatClampNeg) (xs (x3 + (2 : Int32)).toNatClampNeg) (xs (x3 + (3 : Int32)).toNatClampNeg) m3) (fun r4 m4 => if r3 = r4 then (dL_law_18 LL xs f n (x3 + (6 : Int32)) m4) else (some ((0 : Int32), m4))))))))))) else (if ((xs x3.toNatClampNeg) &&& (63 : Int32)) = (2 : Int32) then (ck (x3 + (1 : Int32)) LL (ck (x3 + (2 : Int32)) LL (bd (dW_of f (xs (x3 + (1 : Int32)).toNatClampNeg) (xs (x3 + (2 : Int32)).toNatClampNeg) mem) (fun r5 m5 => ck (x3 + (1 : Int32)) LL (ck (x3 + (2 : Int32)) LL (bd (dM_of f (xs (x3 + (1 : Int32)).toNatClampNeg) (xs (x3 + (2 : Int32)).toNatClampNeg) m5) (fun r6 m6 => if r5 = r6 then (dL_law_18 LL xs f n (x3 + (6 : Int32)) m6) else (some ((0 : Int32), m6))))))))) else (if ((xs x3.toNatClampNeg) &&& (63 : Int32)) = (3 : Int32) then (ck (x3 + (1 : Int32)) LL (ck (x3 + (2 : Int32)) LL (ck (x3 + (3 : Int32)) LL (bd (dW_set f (xs (x3 + (1 : Int32)).toNatClampNeg) (xs (x3 + (2 : Int32)).toNatClampNeg) (xs (x3 + (3 : Int32)).toNatClampNeg) mem) (fun r7 m7 => ck (x3 + (1 : Int32)) LL (ck (x3 + (2 : Int32)) LL (ck (x3 + (3 : Int32)) LL (bd (dM_set f (xs (x3 + (1 : Int32)).toNatClampNeg) (xs (x3 + (2 : Int32)).toNatClampNeg) (xs (x3 + (3 : Int32)).toNatClampNeg) m7) (fun r8 m8 => if r7 = r8 then (dL_law_18 LL xs f n (x3 + (6 : Int32)) m8) else (some ((0 : Int32), m8))))))))))) else (if ((xs x3.toNatClampNeg) &&& (63 : Int32)) = (4 : Int32) then (ck (x3 + (1 : Int32)) LL (ck (x3 + (2 : Int32)) LL (bd (dW_turn f (xs (x3 + (1 : Int32)).toNatClampNeg) (xs (x3 + (2 : Int32)).toNatClampNeg) mem) (fun r9 m9 => ck (x3 + (1 : Int32)) LL (ck (x3 + (2 : Int32)) LL (bd (dM_turn f (xs (x3 + (1 : Int32)).toNatClampNeg) (xs (x3 + (2 : Int32)).toNatClampNeg) m9) (fun r10 m10 => if r9 = r10 then (dL_law_18 LL xs f n (x3 + (6 : Int32)) m10) else (some ((0 : Int32), m10))))))))) else (if ((xs x3.toNatClampNeg) &&& (63 : Int32)) = (5 : Int32) then (ck (x3 + (1 : Int32)) LL (ck (x3 + (2 : Int32)) LL (bd (dW_as f (xs (x3 + (1 : Int32)).toNatClampNeg) (xs (x3 + (2 : Int32)).toNatClampNeg) mem) (fun r11 m11 => ck (x3 + (1 : Int32)) LL (ck (x3 + (2 : Int32)) LL (bd (dM_as f (xs (x3 + (1 : Int32)).toNatClampNeg) (xs (x3 + (2 : Int32)).toNatClampNeg) m11) (fun r12 m12 => if r11 = r12 then (dL_law_18 LL xs f n (x3 + (6 : Int32)) m12) else (some ((0 : Int32), m12))))))))) else (if ((xs x3.toNatClampNeg) &&& (63 : Int32)) = (6 : Int32) then (ck (x3 + (1 : Int32)) LL (ck (x3 + (2 : Int32)) LL (bd (dW_hears f (xs (x3 + (1 : Int32)).toNatClampNeg) (xs (x3 + (2 : Int32)).toNatClampNeg) mem) (fun r13 m13 => ck (x3 + (1 : Int32)) LL (ck (x3 + (2 : Int32)) LL (bd (dM_hears f (xs (x3 + (1 : Int32)).toNatClampNeg) (xs (x3 + (2 : Int32)).toNatClampNeg) m13) (fun r14 m14 => if r13 = r14 then (dL_law_18 LL xs f n (x3 + (6 : Int32)) m14) else (some ((0 : Int32), m14))))))))) else (if ((xs x3.toNatClampNeg) &&& (63 : Int32)) = (7 : Int32) then (ck (x3 + (1 : Int32)) LL (ck (x3 + (2 : Int32)) LL (bd (dW_say f (xs (x3 + (1 : Int32)).toNatClampNeg) (xs (x3 + (2 : Int32)).toNatClampNeg) mem) (fun r15 m15 => ck (x3 + (1 : Int32)) LL (ck (x3 + (2 : Int32)) LL (bd (dM_say f (xs (x3 + (1 : Int32)).toNatClampNeg) (xs (x3 + (2 : Int32)).toNatClampNeg) m15) (fun r16 m16 => if r15 = r16 then (dL_law_18 LL xs f n (x3 + (6 : Int32)) m16) else (some ((0 : Int32), m16))))))))) else (if ((xs x3.toNatClampNeg) &&& (63 : Int32)) = (8 : Int32) then (ck (x3 + (1 : Int32)) LL (bd (dW_pass f (xs (x3 + (1 : Int32)).toNatClampNeg) mem) (fun r17 m17 => ck (x3 + (1 : Int32)) LL (bd (dM_pass f (xs (x3 + (1 : Int32)).toNatClampNeg) m17) (fun r18 m18 => if r17 = r18 then (dL_law_18 LL xs f n (x3 + (6 : Int32)) m18) else (some ((0 : Int32), m18))))))) else (if ((xs x3.toNatClampNeg) &&& (63 : Int32)) = (9 : Int32) then (ck (x3 + (1 : Int32)) LL (ck (x3 + (2 : Int32)) LL (bd (dW_speak f (xs (x3 + (1 : Int32)).toNatClampNeg) (xs (x3 + (2 : Int32)).toNatClampNeg) mem) (fun r19 m19 => ck (x3 + (1 : Int32)) LL (ck (x3 + (2 : Int32)) LL (bd (dM_speak f (xs (x3 + (1 : Int32)).toNatClampNeg) (xs (x3 + (2 : Int32)).toNatClampNeg) m19) (fun r20 m20 => if r19 = r20 then (dL_law_18 LL xs f n (x3 + (6 : Int32)) m20) else (some ((0 : Int32), m20))))))))) else (if ((xs x3.toNatClampNeg) &&& (63 : Int32)) = (10 : Int32) then (ck (x3 + (1 : Int32)) LL (bd (dW_reach f (xs (x3 + (1 : Int32)).toNatClampNeg) mem) (fun r21 m21 => ck (x3 + (1 : Int32)) LL (bd (dM_reach f (xs (x3 + (1 : Int32)).toNatClampNeg) m21) (fun r22 m22 => if r21 = r22 then (dL_law_18 LL xs f n (x3 + (6 : Int32)) m22) else (some ((0 : Int32), m22))))))) else (if ((xs x3.toNatClampNeg) &&& (63 : Int32)) = (11 : Int32) then (ck (x3 + (1 : Int32)) LL (bd (dW_duty f (xs (x3 + (1 : Int32)).toNatClampNeg) mem) (fun r23 m23 => ck (x3 + (1 : Int32)) LL (bd (dM_duty f (xs (x3 + (1 : Int32)).toNatClampNeg) m23) (fun r24 m24 => if r23 = r24 then (dL_law_18 LL xs f n (x3 + (6 : Int32)) m24) else (some ((0 : Int32), m24))))))) else (if ((xs x3.toNatClampNeg) &&& (63 : Int32)) = (12 : Int32) then (ck (x3 + (1 : Int32)) LL (bd (dW_now f (xs (x3 + (1 : Int32)).toNatClampNeg) mem) (fun r25 m25 => ck (x3 + (1 : Int32)) LL (bd (dM_now f (xs (x3 + (1 : Int32)).toNatClampNeg) m25) (fun r26 m26 => if r25 = r26 then (dL_law_18 LL xs f n (x3 + (6 : Int32)) m26) else (some ((0 : Int32), m26))))))) else (if ((xs x3.toNatClampNeg) &&& (63 : Int32)) = (13 : Int32) then (ck (x3 + (1 : Int32)) LL (bd (dW_filed f (xs (x3 + (1 : Int32)).toNatClampNeg) mem) (fun r27 m27 => ck (x3 + (1 : Int32)) LL (bd (dM_filed f (xs (x3 + (1 : Int32)).toNatClampNeg) m27) (fun r28 m28 => if r27 = r28 then (dL_law_18 LL xs f n (x3 + (6 : Int32)) m28) else (some ((0 : Int32), m28))))))) else (if ((xs x3.toNatClampNeg) &&& (63 : Int32)) = (14 : Int32) then (ck (x3 + (1 : Int32)) LL (ck (x3 + (2 : Int32)) LL (bd (dW_safe f (xs (x3 + (1 : Int32)).toNatClampNeg) (xs (x3 + (2 : Int32)).toNatClampNeg) mem) (fun r29 m29 => ck (x3 + (1 : Int32)) LL (ck (x3 + (2 : Int32)) LL (bd (dM_safe f (xs (x3 + (1 : Int32)).toNatClampNeg) (xs (x3 + (2 : Int32)).toNatClampNeg) m29) (fun r30 m30 => if r29 = r30 then (dL_law_18 LL xs f n (x3 + (6 : Int32)) m30) else (some ((0 : Int32), m30))))))))) else (if ((xs x3.toNatClampNeg) &&& (63 : Int32)) = (15 : Int32) then (ck (x3 + (1 : Int32)) LL (bd (dW_where f (xs (x3 + (1 : Int32)).toNatClampNeg) mem) (fun r31 m31 => ck (x3 + (1 : Int32)) LL (bd (dM_where f (xs (x3 + (1 : Int32)).toNatClampNeg) m31) (fun r32 m32 => if r31 = r32 then (dL_law_18 LL xs f n (x3 + (6 : Int32)) m32) else (some ((0 : Int32), m32))))))) else (if ((xs x3.toNatClampNeg) &&& (63 : Int32)) = (16 : Int32) then (ck (x3 + (1 : Int32)) LL (ck (x3 + (2 : Int32)) LL (bd (dW_quiet f (xs (x3 + (1 : Int32)).toNatClampNeg) (xs (x3 + (2 : Int32)).toNatClampNeg) mem) (fun r33 m33 => ck (x3 + (1 : Int32)) LL (ck (x3 + (2 : Int32)) LL (bd (dM_quiet f (xs (x3 + (1 : Int32)).toNatClampNeg) (xs (x3 + (2 : Int32)).toNatClampNeg) m33) (fun r34 m34 => if r33 = r34 then (dL_law_18 LL xs f n (x3 + (6 : Int32)) m34) else (some ((0 : Int32), m34))))))))) else (if ((xs x3.toNatClampNeg) &&& (63 : Int32)) = (17 : Int32) then (ck (x3 + (1 : Int32)) LL (ck (x3 + (2 : Int32)) LL (bd (dW_worst f (xs (x3 + (1 : Int32)).toNatClampNeg) (xs (x3 + (2 : Int32)).toNatClampNeg) mem) (fun r35 m35 => ck (x3 + (1 : Int32)) LL (ck (x3 + (2 : Int32)) LL (bd (dM_worst f (xs (x3 + (1 : Int32)).toNatClampNeg) (xs (x3 + (2 : Int32)).toNatClampNeg) m35) (fun r36 m36 => if r35 = r36 then (dL_law_18 LL xs f n (x3 + (6 : Int32)) m36) else (some ((0 : Int32), m36))))))))) else (if ((xs x3.toNatClampNeg) &&& (63 : Int32)) = (18 : Int32) then (ck (x3 + (1 : Int32)) LL (ck (x3 + (2 : Int32)) LL (bd (dW_cover f (xs (x3 + (1 : Int32)).toNatClampNeg) (xs (x3 + (2 : Int32)).toNatClampNeg) mem) (fun r37 m37 => ck (x3 + (1 : Int32)) LL (ck (x3 + (2 : Int32)) LL (bd (dM_cover f (xs (x3 + (1 : Int32)).toNatClampNeg) (xs (x3 + (2 : Int32)).toNatClampNeg) m37) (fun r38 m38 => if r37 = r38 then (dL_law_18 LL xs f n (x3 + (6 : Int32)) m38) else (some ((0 : Int32), m38))))))))) else (if ((xs x3.toNatClampNeg) &&& (63 : Int32)) = (19 : Int32) then (ck (x3 + (1 : Int32)) LL (ck (x3 + (2 : Int32)) LL (bd (dW_shift f (xs (x3 + (1 : Int32)).toNatClampNeg) (xs (x3 + (2 : Int32)).toNatClampNeg) mem) (fun r39 m39 => ck (x3 + (1 : Int32)) LL (ck (x3 + (2 : Int32)) LL (bd (dM_shift f (xs (x3 + (1 : Int32)).toNatClampNeg) (xs (x3 + (2 : Int32)).toNatClampNeg) m39) (fun r40 m40 => if r39 = r40 then (dL_law_18 LL xs f n (x3 + (6 : Int32)) m40) else (some ((0 : Int32), m40))))))))) else (if ((xs x3.toNatClampNeg) &&& (63 : Int32)) = (20 : Int32) then (ck (x3 + (1 : Int32)) LL (ck (x3 + (2 : Int32)) LL (ck (x3 + (3 : Int32)) LL (bd (dW_side f (xs (x3 + (1 : Int32)).toNatClampNeg) (xs (x3 + (2 : Int32)).toNatClampNeg) (xs (x3 + (3 : Int32)).toNatClampNeg) mem) (fun r41 m41 => ck (x3 + (1 : Int32)) LL (ck (x3 + (2 : Int32)) LL (ck (x3 + (3 : Int32)) LL (bd (dM_side f (xs (x3 + (1 : Int32)).toNatClampNeg) (xs (x3 + (2 : Int32)).toNatClampNeg) (xs (x3 + (3 : Int32)).toNatClampNeg) m41) (fun r42 m42 => if r41 = r42 then (dL_law_18 LL xs f n (x3 + (6 : Int32)) m42) else (some ((0 : Int32), m42))))))))))) else (if ((xs x3.toNatClampNeg) &&& (63 : Int32)) = (21 : Int32) then (ck (x3 + (1 : Int32)) LL (ck (x3 + (2 : Int32)) LL (bd (dW_lost f (xs (x3 + (1 : Int32)).toNatClampNeg) (xs (x3 + (2 : Int32)).toNatClampNeg) mem) (fun r43 m43 => ck (x3 + (1 : Int32)) LL (ck (x3 + (2 : Int32)) LL (bd (dM_lost f (xs (x3 + (1 : Int32)).toNatClampNeg) (xs (x3 + (2 : Int32)).toNatClampNeg) m43) (fun r44 m44 => if r43 = r44 then (dL_law_18 LL xs f n (x3 + (6 : Int32)) m44) else (some ((0 : Int32), m44))))))))) else (if ((xs x3.toNatClampNeg) &&& (63 : Int32)) = (22 : Int32) then (ck (x3 + (1 : Int32)) LL (bd (dW_best f (xs (x3 + (1 : Int32)).toNatClampNeg) mem) (fun r45 m45 => ck (x3 + (1 : Int32)) LL (bd (dM_best f (xs (x3 + (1 : Int32)).toNatClampNeg) m45) (fun r46 m46 => if r45 = r46 then (dL_law_18 LL xs f n (x3 + (6 : Int32)) m46) else (some ((0 : Int32), m46))))))) else (if ((xs x3.toNatClampNeg) &&& (63 : Int32)) = (23 : Int32) then (ck (x3 + (1 : Int32)) LL (ck (x3 + (2 : Int32)) LL (bd (dW_feed f (xs (x3 + (1 : Int32)).toNatClampNeg) (xs (x3 + (2 : Int32)).toNatClampNeg) mem) (fun r47 m47 => ck (x3 + (1 : Int32)) LL (ck (x3 + (2 : Int32)) LL (bd (dM_feed f (xs (x3 + (1 : Int32)).toNatClampNeg) (xs (x3 + (2 : Int32)).toNatClampNeg) m47) (fun r48 m48 => if r47 = r48 then (dL_law_18 LL xs f n (x3 + (6 : Int32)) m48) else (some ((0 : Int32), m48))))))))) else (if ((xs x3.toNatClampNeg) &&& (63 : Int32)) = (24 : Int32) then (bd (dW_wipe f  mem) (fun r49 m49 => bd (dM_wipe f  m49) (fun r50 m50 => if r49 = r50 then (dL_law_18 LL xs f n (x3 + (6 : Int32)) m50) else (some ((0 : Int32), m50))))) else (if ((xs x3.toNatClampNeg) &&& (63 : Int32)) = (25 : Int32) then (bd (dW_palace f  mem) (fun r51 m51 => bd (dM_palace f  m51) (fun r52 m52 => if r51 = r52 then (dL_law_18 LL xs f n (x3 + (6 : Int32)) m52) else (some ((0 : Int32), m52))))) else (if ((xs x3.toNatClampNeg) &&& (63 : Int32)) = (26 : Int32) then (ck (x3 + (1 : Int32)) LL (ck (x3 + (2 : Int32)) LL (ck (x3 + (3 : Int32)) LL (bd (dW_sheet f (xs (x3 + (1 : Int32)).toNatClampNeg) (xs (x3 + (2 : Int32)).toNatClampNeg) (xs (x3 + (3 : Int32)).toNatClampNeg) mem) (fun r53 m53 => ck (x3 + (1 : Int32)) LL (ck (x3 + (2 : Int32)) LL (ck (x3 + (3 : Int32)) LL (bd (dM_sheet f (xs (x3 + (1 : Int32)).toNatClampNeg) (xs (x3 + (2 : Int32)).toNatClampNeg) (xs (x3 + (3 : Int32)).toNatClampNeg) m53) (fun r54 m54 => if r53 = r54 then (dL_law_18 LL xs f n (x3 + (6 : Int32)) m54) else (some ((0 : Int32), m54))))))))))) else (if ((xs x3.toNatClampNeg) &&& (63 : Int32)) = (27 : Int32) then (ck (x3 + (1 : Int32)) LL (ck (x3 + (2 : Int32)) LL (ck (x3 + (3 : Int32)) LL (ck (x3 + (4 : Int32)) LL (bd (dW_write f (xs (x3 + (1 : Int32)).toNatClampNeg) (xs (x3 + (2 : Int32)).toNatClampNeg) (((xs (x3 + (3 : Int32)).toNatClampNeg).toInt64 <<< ((32 : Int32).toInt64 &&& 63)) ||| ((xs (x3 + (4 : Int32)).toNatClampNeg).toInt64 &&& (4294967295 : Int64))) mem) (fun r55 m55 => ck (x3 + (1 : Int32)) LL (ck (x3 + (2 : Int32)) LL (ck (x3 + (3 : Int32)) LL (ck (x3 + (4 : Int32)) LL (bd (dM_write f (xs (x3 + (1 : Int32)).toNatClampNeg) (xs (x3 + (2 : Int32)).toNatClampNeg) (((xs (x3 + (3 : Int32)).toNatClampNeg).toInt64 <<< ((32 : Int32).toInt64 &&& 63)) ||| ((xs (x3 + (4 : Int32)).toNatClampNeg).toInt64 &&& (4294967295 : Int64))) m55) (fun r56 m56 => if (lg_cmp r55 r56) = 0 then (dL_law_18 LL xs f n (x3 + (6 : Int32)) m56) else (some ((0 : Int32), m56))))))))))))) else (if ((xs x3.toNatClampNeg) &&& (63 : Int32)) = (28 : Int32) then (ck (x3 + (1 : Int32)) LL (ck (x3 + (2 : Int32)) LL (ck (x3 + (3 : Int32)) LL (ck (x3 + (4 : Int32)) LL (ck (x3 + (5 : Int32)) LL (bd (dW_copy f (xs (x3 + (1 : Int32)).toNatClampNeg) (xs (x3 + (2 : Int32)).toNatClampNeg) (xs (x3 + (3 : Int32)).toNatClampNeg) (xs (x3 + (4 : Int32)).toNatClampNeg) (xs (x3 + (5 : Int32)).toNatClampNeg) mem) (fun r57 m57 => ck (x3 + (1 : Int32)) LL (ck (x3 + (2 : Int32)) LL (ck (x3 + (3 : Int32)) LL (ck (x3 + (4 : Int32)) LL (ck (x3 + (5 : Int32)) LL (bd (dM_copy f (xs (x3 + (1 : Int32)).toNatClampNeg) (xs (x3 + (2 : Int32)).toNatClampNeg) (xs (x3 + (3 : Int32)).toNatClampNeg) (xs (x3 + (4 : Int32)).toNatClampNeg) (xs (x3 + (5 : Int32)).toNatClampNeg) m57) (fun r58 m58 => if r57 = r58 then (dL_law_18 LL xs f n (x3 + (6 : Int32)) m58) else (some ((0 : Int32), m58))))))))))))))) else (if ((xs x3.toNatClampNeg) &&& (63 : Int32)) = (29 : Int32) then (ck (x3 + (1 : Int32)) LL (bd (dW_lays f (xs (x3 + (1 : Int32)).toNatClampNeg) mem) (fun r59 m59 => ck (x3 + (1 : Int32)) LL (bd (dM_lays f (xs (x3 + (1 : Int32)).toNatClampNeg) m59) (fun r60 m60 => if r59 = r60 then (dL_law_18 LL xs f n (x3 + (6 : Int32)) m60) else (some ((0 : Int32), m60))))))) else (if ((xs x3.toNatClampNeg) &&& (63 : Int32)) = (30 : Int32) then (ck (x3 + (1 : Int32)) LL (ck (x3 + (2 : Int32)) LL (bd (dW_book f (xs (x3 + (1 : Int32)).toNatClampNeg) (xs (x3 + (2 : Int32)).toNatClampNeg) mem) (fun r61 m61 => ck (x3 + (1 : Int32)) LL (ck (x3 + (2 : Int32)) LL (bd (dM_book f (xs (x3 + (1 : Int32)).toNatClampNeg) (xs (x3 + (2 : Int32)).toNatClampNeg) m61) (fun r62 m62 => if r61 = r62 then (dL_law_18 LL xs f n (x3 + (6 : Int32)) m62) else (some ((0 : Int32), m62))))))))) else (if ((xs x3.toNatClampNeg) &&& (63 : Int32)) = (31 : Int32) then (ck (x3 + (1 : Int32)) LL (ck (x3 + (2 : Int32)) LL (bd (dW_read f (xs (x3 + (1 : Int32)).toNatClampNeg) (xs (x3 + (2 : Int32)).toNatClampNeg) mem) (fun r63 m63 => ck (x3 + (1 : Int32)) LL (ck (x3 + (2 : Int32)) LL (bd (dM_read f (xs (x3 + (1 : Int32)).toNatClampNeg) (xs (x3 + (2 : Int32)).toNatClampNeg) m63) (fun r64 m64 => if r63 = r64 then (dL_law_18 LL xs f n (x3 + (6 : Int32)) m64) else (some ((0 : Int32), m64))))))))) else (if ((xs x3.toNatClampNeg) &&& (63 : Int32)) = (32 : Int32) then (bd (dW_image f  mem) (fun r65 m65 => bd (dM_image f  m65) (fun r66 m66 => if r65 = r66 then (dL_law_18 LL xs f n (x3 + (6 : Int32)) m66) else (some ((0 : Int32), m66))))) else (if ((xs x3.toNatClampNeg) &&& (63 : Int32)) = (33 : Int32) then (bd (dW_undo f  mem) (fun r67 m67 => bd (dM_undo f  m67) (fun r68 m68 => if r67 = r68 then (dL_law_18 LL xs f n (x3 + (6 : Int32)) m68) else (some ((0 : Int32), m68))))) else (if ((xs x3.toNatClampNeg) &&& (63 : Int32)) = (34 : Int32) then (bd (dW_tear f  mem) (fun r69 m69 => bd (dM_tear f  m69) (fun r70 m70 => if r69 = r70 then (dL_law_18 LL xs f n (x3 + (6 : Int32)) m70) else (some ((0 : Int32), m70))))) else (if ((xs x3.toNatClampNeg) &&& (63 : Int32)) = (35 : Int32) then (ck (x3 + (1 : Int32)) LL (bd (dW_count f (xs (x3 + (1 : Int32)).toNatClampNeg) mem) (fun r71 m71 => ck (x3 + (1 : Int32)) LL (bd (dM_count f (xs (x3 + (1 : Int32)).toNatClampNeg) m71) (fun r72 m72 => if r71 = r72 then (dL_law_18 LL xs f n (x3 + (6 : Int32)) m72) else (some ((0 : Int32), m72))))))) else (if ((xs x3.toNatClampNeg) &&& (63 : Int32)) = (36 : Int32) then (ck (x3 + (1 : Int32)) LL (bd (dW_status f (xs (x3 + (1 : Int32)).toNatClampNeg) mem) (fun r73 m73 => ck (x3 + (1 : Int32)) LL (bd (dM_status f (xs (x3 + (1 : Int32)).toNatClampNeg) m73) (fun r74 m74 => if r73 = r74 then (dL_law_18 LL xs f n (x3 + (6 : Int32)) m74) else (some ((0 : Int32), m74))))))) else (dL_law_18 LL xs f n (x3 + (6 : Int32)) mem)))))))))))))))))))))))))))))))))))))))
set_option maxHeartbeats 4000000 in
set_option maxRecDepth 100000 in
theorem cL_law_18 {p : Program} {l : Launch} {e : Env} {s : State} {m : MethodId} {b : Nat} {below : List Frame} {meth : Method} {c : Code} {k : KK} {f : Nat} {mem' : Mem} (X : CX p s m #[Value.ref b] meth c k code 4 "WallShiftsLaw") (hr : meth.sig.returnType = ret) (hk : kh k = s.heap.size) : ∀ (n : Nat) (x3 : Int32) (mem : Mem), dL_law_18 (kL k) (kx k) f n x3 mem = some ((1 : Int32), mem') → V p l e room_1 s m #[Value.ref b] below meth c 600000 7302250 (lw_Z below #[Value.ref b] s) k 4 mem 18 [(0, aR 24 0), (1, aR 0 0), (2, aR 12 0), (3, aI x3)] [] := by
  intro n
  induction n with
  | zero =>
    intro x3 mem  h
    exact nomatch (show (none : Option (Int32 × Mem)) = some _ from h)
  | succ n ih =>
    intro x3 mem  h
    rw [dL_law_18] at h
    refine v_iload_n X (pc := 18) 3 rfl eL_law_18 rfl ?_
    refine v_aload_n X (pc := 19) 0 rfl eL_law_19 rfl ?_
    refine v_slen X (pc := 20) eL_law_20 ?_
    refine v_bipush X (pc := 21) (v := (6 : Int32)) eL_law_21 (by decide) ?_
    refine v_isub X (pc := 23) eL_law_23 ?_
    refine v_icmp_gt X (pc := 24) (tgt := 1334) h eL_law_24 (by decide) (fun h => ?_) (fun h => ?_)
    · refine v_iconst X (pc := 1334) (v := (1 : Int32)) eL_law_1334 (by decide) ?_
      exact v_lwret X hr hk (pc := 1335) h eL_law_1335
    · refine v_aload_n X (pc := 27) 0 rfl eL_law_27 rfl ?_
      refine v_iload_n X (pc := 28) 3 rfl eL_law_28 rfl ?_
      refine v_sld X (pc := 29) h eL_law_29 (fun h => ?_)
      refine v_bipush X (pc := 30) (v := (63 : Int32)) eL_law_30 (by decide) ?_
      refine v_iand X (pc := 32) eL_law_32 ?_
      by_cases g0 : ((kx k x3.toNatClampNeg) &&& (63 : Int32)) = (0 : Int32)
      · have h := it_t h g0
        refine v_tsw X (pc := 33) (tgt := 196) (0 : Int32) g0 eL_law_33 (by decide) (by decide) rfl (by decide) ?_
        refine v_aload_n X (pc := 196) 1 rfl eL_law_196 rfl ?_
        refine v_aload_n X (pc := 197) 0 rfl eL_law_197 rfl ?_
        refine v_iload_n X (pc := 198) 3 rfl eL_law_198 rfl ?_
        refine v_iconst X (pc := 199) (v := (1 : Int32)) eL_law_199 (by decide) ?_
        refine v_iadd X (pc := 200) eL_law_200 ?_
        refine v_sld X (pc := 201) h eL_law_201 (fun h => ?_)
        refine v_aload_n X (pc := 202) 0 rfl eL_law_202 rfl ?_
        refine v_iload_n X (pc := 203) 3 rfl eL_law_203 rfl ?_
        refine v_iconst X (pc := 204) (v := (2 : Int32)) eL_law_204 (by decide) ?_
        refine v_iadd X (pc := 205) eL_law_205 ?_
        refine v_sld X (pc := 206) h eL_law_206 (fun h => ?_)
        obtain ⟨r1, m1, hc1, h⟩ := bd_some h
        refine v_callV X (pc := 207) [_, _] [] ok_V_L_13 (cW_rota  hc1) rfl (Nat.le_of_ble_eq_true rfl) ⟨Nat.le_of_ble_eq_true rfl, Nat.le_of_ble_eq_true rfl⟩ ⟨Nat.le_of_ble_eq_true rfl, Nat.le_of_ble_eq_true rfl⟩ (by decide) (by decide) rfl rfl eL_law_207 ?_
        refine v_aload_n X (pc := 210) 2 rfl eL_law_210 rfl ?_
        refine v_aload_n X (pc := 211) 0 rfl eL_law_211 rfl ?_
        refine v_iload_n X (pc := 212) 3 rfl eL_law_212 rfl ?_
        refine v_iconst X (pc := 213) (v := (1 : Int32)) eL_law_213 (by decide) ?_
        refine v_iadd X (pc := 214) eL_law_214 ?_
        refine v_sld X (pc := 215) h eL_law_215 (fun h => ?_)
        refine v_aload_n X (pc := 216) 0 rfl eL_law_216 rfl ?_
        refine v_iload_n X (pc := 217) 3 rfl eL_law_217 rfl ?_
        refine v_iconst X (pc := 218) (v := (2 : Int32)) eL_law_218 (by decide) ?_
        refine v_iadd X (pc := 219) eL_law_219 ?_
        refine v_sld X (pc := 220) h eL_law_220 (fun h => ?_)
        obtain ⟨r2, m2, hc2, h⟩ := bd_some h
        refine v_callV X (pc := 221) [_, _] [_] ok_V_L_17 (cM_rota  hc2) rfl (Nat.le_of_ble_eq_true rfl) ⟨Nat.le_of_ble_eq_true rfl, Nat.le_of_ble_eq_true rfl⟩ ⟨Nat.le_of_ble_eq_true rfl, Nat.le_of_ble_eq_true rfl⟩ (by decide) (by decide) rfl rfl eL_law_221 ?_
        refine v_icmp_eq X (pc := 224) (tgt := 1328) h eL_law_224 (by decide) (fun h => ?_) (fun h => ?_)
        · refine v_iinc X (pc := 1328) (v := (x3 + (6 : Int32))) (lv' := [(3, _), (0, _), (1, _), (2, _)]) 3 rfl (by rfl) eL_law_1328 (Nat.le_of_ble_eq_true rfl) rfl ?_
          refine v_goto X (pc := 1331) (tgt := 18) eL_law_1331 (by decide) ?_
          exact v_sub [1, 2, 3, 0] rfl (ih _ _  h)
        · refine v_iconst X (pc := 227) (v := (0 : Int32)) eL_law_227 (by decide) ?_
          exact absurd (Prod.mk.inj (Option.some.inj h)).1 (by decide)
      have h := it_f h g0
      by_cases g1 : ((kx k x3.toNatClampNeg) &&& (63 : Int32)) = (1 : Int32)
      · have h := it_t h g1
        refine v_tsw X (pc := 33) (tgt := 229) (1 : Int32) g1 eL_law_33 (by decide) (by decide) rfl (by decide) ?_
        refine v_aload_n X (pc := 229) 1 rfl eL_law_229 rfl ?_
        refine v_aload_n X (pc := 230) 0 rfl eL_law_230 rfl ?_
        refine v_iload_n X (pc := 231) 3 rfl eL_law_231 rfl ?_
        refine v_iconst X (pc := 232) (v := (1 : Int32)) eL_law_232 (by decide) ?_
        refine v_iadd X (pc := 233) eL_law_233 ?_
        refine v_sld X (pc := 234) h eL_law_234 (fun h => ?_)
        refine v_aload_n X (pc := 235) 0 rfl eL_law_235 rfl ?_
        refine v_iload_n X (pc := 236) 3 rfl eL_law_236 rfl ?_
        refine v_iconst X (pc := 237) (v := (2 : Int32)) eL_law_237 (by decide) ?_
        refine v_iadd X (pc := 238) eL_law_238 ?_
        refine v_sld X (pc := 239) h eL_law_239 (fun h => ?_)
        refine v_aload_n X (pc := 240) 0 rfl eL_law_240 rfl ?_
        refine v_iload_n X (pc := 241) 3 rfl eL_law_241 rfl ?_
        refine v_iconst X (pc := 242) (v := (3 : Int32)) eL_law_242 (by decide) ?_
        refine v_iadd X (pc := 243) eL_law_243 ?_
        refine v_sld X (pc := 244) h eL_law_244 (fun h => ?_)
        obtain ⟨r3, m3, hc3, h⟩ := bd_some h
        refine v_callV X (pc := 245) [_, _, _] [] ok_V_L_18 (cW_wall  hc3) rfl (Nat.le_of_ble_eq_true rfl) ⟨Nat.le_of_ble_eq_true rfl, Nat.le_of_ble_eq_true rfl⟩ ⟨Nat.le_of_ble_eq_true rfl, Nat.le_of_ble_eq_true rfl⟩ (by decide) (by decide) rfl rfl eL_law_245 ?_
        refine v_aload_n X (pc := 248) 2 rfl eL_law_248 rfl ?_
        refine v_aload_n X (pc := 249) 0 rfl eL_law_249 rfl ?_
        refine v_iload_n X (pc := 250) 3 rfl eL_law_250 rfl ?_
        refine v_iconst X (pc := 251) (v := (1 : Int32)) eL_law_251 (by decide) ?_
        refine v_iadd X (pc := 252) eL_law_252 ?_
        refine v_sld X (pc := 253) h eL_law_253 (fun h => ?_)
        refine v_aload_n X (pc := 254) 0 rfl eL_law_254 rfl ?_
        refine v_iload_n X (pc := 255) 3 rfl eL_law_255 rfl ?_
        refine v_iconst X (pc := 256) (v := (2 : Int32)) eL_law_256 (by decide) ?_
        refine v_iadd X (pc := 257) eL_law_257 ?_
        refine v_sld X (pc := 258) h eL_law_258 (fun h => ?_)
        refine v_aload_n X (pc := 259) 0 rfl eL_law_259 rfl ?_
        refine v_iload_n X (pc := 260) 3 rfl eL_law_260 rfl ?_
        refine v_iconst X (pc := 261) (v := (3 : Int32)) eL_law_261 (by decide) ?_
        refine v_iadd X (pc := 262) eL_law_262 ?_
        refine v_sld X (pc := 263) h eL_law_263 (fun h => ?_)
        obtain ⟨r4, m4, hc4, h⟩ := bd_some h
        refine v_callV X (pc := 264) [_, _, _] [_] ok_V_L_22 (cM_wall  hc4) rfl (Nat.le_of_ble_eq_true rfl) ⟨Nat.le_of_ble_eq_true rfl, Nat.le_of_ble_eq_true rfl⟩ ⟨Nat.le_of_ble_eq_true rfl, Nat.le_of_ble_eq_true rfl⟩ (by decide) (by decide) rfl rfl eL_law_264 ?_
        refine v_icmp_eq X (pc := 267) (tgt := 1328) h eL_law_267 (by decide) (fun h => ?_) (fun h => ?_)
        · refine v_iinc X (pc := 1328) (v := (x3 + (6 : Int32))) (lv' := [(3, _), (0, _), (1, _), (2, _)]) 3 rfl (by rfl) eL_law_1328 (Nat.le_of_ble_eq_true rfl) rfl ?_
          refine v_goto X (pc := 1331) (tgt := 18) eL_law_1331 (by decide) ?_
          exact v_sub [1, 2, 3, 0] rfl (ih _ _  h)
        · refine v_iconst X (pc := 270) (v := (0 : Int32)) eL_law_270 (by decide) ?_
          exact absurd (Prod.mk.inj (Option.some.inj h)).1 (by decide)
      have h := it_f h g1
      by_cases g2 : ((kx k x3.toNatClampNeg) &&& (63 : Int32)) = (2 : Int32)
      · have h := it_t h g2
        refine v_tsw X (pc := 33) (tgt := 272) (2 : Int32) g2 eL_law_33 (by decide) (by decide) rfl (by decide) ?_
        refine v_aload_n X (pc := 272) 1 rfl eL_law_272 rfl ?_
        refine v_aload_n X (pc := 273) 0 rfl eL_law_273 rfl ?_
        refine v_iload_n X (pc := 274) 3 rfl eL_law_274 rfl ?_
        refine v_iconst X (pc := 275) (v := (1 : Int32)) eL_law_275 (by decide) ?_
        refine v_iadd X (pc := 276) eL_law_276 ?_
        refine v_sld X (pc := 277) h eL_law_277 (fun h => ?_)
        refine v_aload_n X (pc := 278) 0 rfl eL_law_278 rfl ?_
        refine v_iload_n X (pc := 279) 3 rfl eL_law_279 rfl ?_
        refine v_iconst X (pc := 280) (v := (2 : Int32)) eL_law_280 (by decide) ?_
        refine v_iadd X (pc := 281) eL_law_281 ?_
        refine v_sld X (pc := 282) h eL_law_282 (fun h => ?_)
        obtain ⟨r5, m5, hc5, h⟩ := bd_some h
        refine v_callV X (pc := 283) [_, _] [] ok_V_L_23 (cW_of  hc5) rfl (Nat.le_of_ble_eq_true rfl) ⟨Nat.le_of_ble_eq_true rfl, Nat.le_of_ble_eq_true rfl⟩ ⟨Nat.le_of_ble_eq_true rfl, Nat.le_of_ble_eq_true rfl⟩ (by decide) (by decide) rfl rfl eL_law_283 ?_
        refine v_aload_n X (pc := 286) 2 rfl eL_law_286 rfl ?_
        refine v_aload_n X (pc := 287) 0 rfl eL_law_287 rfl ?_
        refine v_iload_n X (pc := 288) 3 rfl eL_law_288 rfl ?_
        refine v_iconst X (pc := 289) (v := (1 : Int32)) eL_law_289 (by decide) ?_
        refine v_iadd X (pc := 290) eL_law_290 ?_
        refine v_sld X (pc := 291) h eL_law_291 (fun h => ?_)
        refine v_aload_n X (pc := 292) 0 rfl eL_law_292 rfl ?_
        refine v_iload_n X (pc := 293) 3 rfl eL_law_293 rfl ?_
        refine v_iconst X (pc := 294) (v := (2 : Int32)) eL_law_294 (by decide) ?_
        refine v_iadd X (pc := 295) eL_law_295 ?_
        refine v_sld X (pc := 296) h eL_law_296 (fun h => ?_)
        obtain ⟨r6, m6, hc6, h⟩ := bd_some h
        refine v_callV X (pc := 297) [_, _] [_] ok_V_L_26 (cM_of  hc6) rfl (Nat.le_of_ble_eq_true rfl) ⟨Nat.le_of_ble_eq_true rfl, Nat.le_of_ble_eq_true rfl⟩ ⟨Nat.le_of_ble_eq_true rfl, Nat.le_of_ble_eq_true rfl⟩ (by decide) (by decide) rfl rfl eL_law_297 ?_
        refine v_icmp_eq X (pc := 300) (tgt := 1328) h eL_law_300 (by decide) (fun h => ?_) (fun h => ?_)
        · refine v_iinc X (pc := 1328) (v := (x3 + (6 : Int32))) (lv' := [(3, _), (0, _), (1, _), (2, _)]) 3 rfl (by rfl) eL_law_1328 (Nat.le_of_ble_eq_true rfl) rfl ?_
          refine v_goto X (pc := 1331) (tgt := 18) eL_law_1331 (by decide) ?_
          exact v_sub [1, 2, 3, 0] rfl (ih _ _  h)
        · refine v_iconst X (pc := 303) (v := (0 : Int32)) eL_law_303 (by decide) ?_
          exact absurd (Prod.mk.inj (Option.some.inj h)).1 (by decide)
      have h := it_f h g2
      by_cases g3 : ((kx k x3.toNatClampNeg) &&& (63 : Int32)) = (3 : Int32)
      · have h := it_t h g3
        refine v_tsw X (pc := 33) (tgt := 305) (3 : Int32) g3 eL_law_33 (by decide) (by decide) rfl (by decide) ?_
        refine v_aload_n X (pc := 305) 1 rfl eL_law_305 rfl ?_
        refine v_aload_n X (pc := 306) 0 rfl eL_law_306 rfl ?_
        refine v_iload_n X (pc := 307) 3 rfl eL_law_307 rfl ?_
        refine v_iconst X (pc := 308) (v := (1 : Int32)) eL_law_308 (by decide) ?_
        refine v_iadd X (pc := 309) eL_law_309 ?_
        refine v_sld X (pc := 310) h eL_law_310 (fun h => ?_)
        refine v_aload_n X (pc := 311) 0 rfl eL_law_311 rfl ?_
        refine v_iload_n X (pc := 312) 3 rfl eL_law_312 rfl ?_
        refine v_iconst X (pc := 313) (v := (2 : Int32)) eL_law_313 (by decide) ?_
        refine v_iadd X (pc := 314) eL_law_314 ?_
        refine v_sld X (pc := 315) h eL_law_315 (fun h => ?_)
        refine v_aload_n X (pc := 316) 0 rfl eL_law_316 rfl ?_
        refine v_iload_n X (pc := 317) 3 rfl eL_law_317 rfl ?_
        refine v_iconst X (pc := 318) (v := (3 : Int32)) eL_law_318 (by decide) ?_
        refine v_iadd X (pc := 319) eL_law_319 ?_
        refine v_sld X (pc := 320) h eL_law_320 (fun h => ?_)
        obtain ⟨r7, m7, hc7, h⟩ := bd_some h
        refine v_callV X (pc := 321) [_, _, _] [] ok_V_L_27 (cW_set  hc7) rfl (Nat.le_of_ble_eq_true rfl) ⟨Nat.le_of_ble_eq_true rfl, Nat.le_of_ble_eq_true rfl⟩ ⟨Nat.le_of_ble_eq_true rfl, Nat.le_of_ble_eq_true rfl⟩ (by decide) (by decide) rfl rfl eL_law_321 ?_
        refine v_aload_n X (pc := 324) 2 rfl eL_law_324 rfl ?_
        refine v_aload_n X (pc := 325) 0 rfl eL_law_325 rfl ?_
        refine v_iload_n X (pc := 326) 3 rfl eL_law_326 rfl ?_
        refine v_iconst X (pc := 327) (v := (1 : Int32)) eL_law_327 (by decide) ?_
        refine v_iadd X (pc := 328) eL_law_328 ?_
        refine v_sld X (pc := 329) h eL_law_329 (fun h => ?_)
        refine v_aload_n X (pc := 330) 0 rfl eL_law_330 rfl ?_
        refine v_iload_n X (pc := 331) 3 rfl eL_law_331 rfl ?_
        refine v_iconst X (pc := 332) (v := (2 : Int32)) eL_law_332 (by decide) ?_
        refine v_iadd X (pc := 333) eL_law_333 ?_
        refine v_sld X (pc := 334) h eL_law_334 (fun h => ?_)
        refine v_aload_n X (pc := 335) 0 rfl eL_law_335 rfl ?_
        refine v_iload_n X (pc := 336) 3 rfl eL_law_336 rfl ?_
        refine v_iconst X (pc := 337) (v := (3 : Int32)) eL_law_337 (by decide) ?_
        refine v_iadd X (pc := 338) eL_law_338 ?_
        refine v_sld X (pc := 339) h eL_law_339 (fun h => ?_)
        obtain ⟨r8, m8, hc8, h⟩ := bd_some h
        refine v_callV X (pc := 340) [_, _, _] [_] ok_V_L_30 (cM_set  hc8) rfl (Nat.le_of_ble_eq_true rfl) ⟨Nat.le_of_ble_eq_true rfl, Nat.le_of_ble_eq_true rfl⟩ ⟨Nat.le_of_ble_eq_true rfl, Nat.le_of_ble_eq_true rfl⟩ (by decide) (by decide) rfl rfl eL_law_340 ?_
        refine v_icmp_eq X (pc := 343) (tgt := 1328) h eL_law_343 (by decide) (fun h => ?_) (fun h => ?_)
        · refine v_iinc X (pc := 1328) (v := (x3 + (6 : Int32))) (lv' := [(3, _), (0, _), (1, _), (2, _)]) 3 rfl (by rfl) eL_law_1328 (Nat.le_of_ble_eq_true rfl) rfl ?_
          refine v_goto X (pc := 1331) (tgt := 18) eL_law_1331 (by decide) ?_
          exact v_sub [1, 2, 3, 0] rfl (ih _ _  h)
        · refine v_iconst X (pc := 346) (v := (0 : Int32)) eL_law_346 (by decide) ?_
          exact absurd (Prod.mk.inj (Option.some.inj h)).1 (by decide)
      have h := it_f h g3
      by_cases g4 : ((kx k x3.toNatClampNeg) &&& (63 : Int32)) = (4 : Int32)
      · have h := it_t h g4
        refine v_tsw X (pc := 33) (tgt := 348) (4 : Int32) g4 eL_law_33 (by decide) (by decide) rfl (by decide) ?_
        refine v_aload_n X (pc := 348) 1 rfl eL_law_348 rfl ?_
        refine v_aload_n X (pc := 349) 0 rfl eL_law_349 rfl ?_
        refine v_iload_n X (pc := 350) 3 rfl eL_law_350 rfl ?_
        refine v_iconst X (pc := 351) (v := (1 : Int32)) eL_law_351 (by decide) ?_
        refine v_iadd X (pc := 352) eL_law_352 ?_
        refine v_sld X (pc := 353) h eL_law_353 (fun h => ?_)
        refine v_aload_n X (pc := 354) 0 rfl eL_law_354 rfl ?_
        refine v_iload_n X (pc := 355) 3 rfl eL_law_355 rfl ?_
        refine v_iconst X (pc := 356) (v := (2 : Int32)) eL_law_356 (by decide) ?_
        refine v_iadd X (pc := 357) eL_law_357 ?_
        refine v_sld X (pc := 358) h eL_law_358 (fun h => ?_)
        obtain ⟨r9, m9, hc9, h⟩ := bd_some h
        refine v_callV X (pc := 359) [_, _] [] ok_V_L_31 (cW_turn  hc9) rfl (Nat.le_of_ble_eq_true rfl) ⟨Nat.le_of_ble_eq_true rfl, Nat.le_of_ble_eq_true rfl⟩ ⟨Nat.le_of_ble_eq_true rfl, Nat.le_of_ble_eq_true rfl⟩ (by decide) (by decide) rfl rfl eL_law_359 ?_
        refine v_aload_n X (pc := 362) 2 rfl eL_law_362 rfl ?_
        refine v_aload_n X (pc := 363) 0 rfl eL_law_363 rfl ?_
        refine v_iload_n X (pc := 364) 3 rfl eL_law_364 rfl ?_
        refine v_iconst X (pc := 365) (v := (1 : Int32)) eL_law_365 (by decide) ?_
        refine v_iadd X (pc := 366) eL_law_366 ?_
        refine v_sld X (pc := 367) h eL_law_367 (fun h => ?_)
        refine v_aload_n X (pc := 368) 0 rfl eL_law_368 rfl ?_
        refine v_iload_n X (pc := 369) 3 rfl eL_law_369 rfl ?_
        refine v_iconst X (pc := 370) (v := (2 : Int32)) eL_law_370 (by decide) ?_
        refine v_iadd X (pc := 371) eL_law_371 ?_
        refine v_sld X (pc := 372) h eL_law_372 (fun h => ?_)
        obtain ⟨r10, m10, hc10, h⟩ := bd_some h
        refine v_callV X (pc := 373) [_, _] [_] ok_V_L_34 (cM_turn  hc10) rfl (Nat.le_of_ble_eq_true rfl) ⟨Nat.le_of_ble_eq_true rfl, Nat.le_of_ble_eq_true rfl⟩ ⟨Nat.le_of_ble_eq_true rfl, Nat.le_of_ble_eq_true rfl⟩ (by decide) (by decide) rfl rfl eL_law_373 ?_
        refine v_icmp_eq X (pc := 376) (tgt := 1328) h eL_law_376 (by decide) (fun h => ?_) (fun h => ?_)
        · refine v_iinc X (pc := 1328) (v := (x3 + (6 : Int32))) (lv' := [(3, _), (0, _), (1, _), (2, _)]) 3 rfl (by rfl) eL_law_1328 (Nat.le_of_ble_eq_true rfl) rfl ?_
          refine v_goto X (pc := 1331) (tgt := 18) eL_law_1331 (by decide) ?_
          exact v_sub [1, 2, 3, 0] rfl (ih _ _  h)
        · refine v_iconst X (pc := 379) (v := (0 : Int32)) eL_law_379 (by decide) ?_
          exact absurd (Prod.mk.inj (Option.some.inj h)).1 (by decide)
      have h := it_f h g4
      by_cases g5 : ((kx k x3.toNatClampNeg) &&& (63 : Int32)) = (5 : Int32)
      · have h := it_t h g5
        refine v_tsw X (pc := 33) (tgt := 381) (5 : Int32) g5 eL_law_33 (by decide) (by decide) rfl (by decide) ?_
        refine v_aload_n X (pc := 381) 1 rfl eL_law_381 rfl ?_
        refine v_aload_n X (pc := 382) 0 rfl eL_law_382 rfl ?_
        refine v_iload_n X (pc := 383) 3 rfl eL_law_383 rfl ?_
        refine v_iconst X (pc := 384) (v := (1 : Int32)) eL_law_384 (by decide) ?_
        refine v_iadd X (pc := 385) eL_law_385 ?_
        refine v_sld X (pc := 386) h eL_law_386 (fun h => ?_)
        refine v_aload_n X (pc := 387) 0 rfl eL_law_387 rfl ?_
        refine v_iload_n X (pc := 388) 3 rfl eL_law_388 rfl ?_
        refine v_iconst X (pc := 389) (v := (2 : Int32)) eL_law_389 (by decide) ?_
        refine v_iadd X (pc := 390) eL_law_390 ?_
        refine v_sld X (pc := 391) h eL_law_391 (fun h => ?_)
        obtain ⟨r11, m11, hc11, h⟩ := bd_some h
        refine v_callV X (pc := 392) [_, _] [] ok_V_L_35 (cW_as  hc11) rfl (Nat.le_of_ble_eq_true rfl) ⟨Nat.le_of_ble_eq_true rfl, Nat.le_of_ble_eq_true rfl⟩ ⟨Nat.le_of_ble_eq_true rfl, Nat.le_of_ble_eq_true rfl⟩ (by decide) (by decide) rfl rfl eL_law_392 ?_
        refine v_aload_n X (pc := 395) 2 rfl eL_law_395 rfl ?_
        refine v_aload_n X (pc := 396) 0 rfl eL_law_396 rfl ?_
        refine v_iload_n X (pc := 397) 3 rfl eL_law_397 rfl ?_
        refine v_iconst X (pc := 398) (v := (1 : Int32)) eL_law_398 (by decide) ?_
        refine v_iadd X (pc := 399) eL_law_399 ?_
        refine v_sld X (pc := 400) h eL_law_400 (fun h => ?_)
        refine v_aload_n X (pc := 401) 0 rfl eL_law_401 rfl ?_
        refine v_iload_n X (pc := 402) 3 rfl eL_law_402 rfl ?_
        refine v_iconst X (pc := 403) (v := (2 : Int32)) eL_law_403 (by decide) ?_
        refine v_iadd X (pc := 404) eL_law_404 ?_
        refine v_sld X (pc := 405) h eL_law_405 (fun h => ?_)
        obtain ⟨r12, m12, hc12, h⟩ := bd_some h
        refine v_callV X (pc := 406) [_, _] [_] ok_V_L_38 (cM_as  hc12) rfl (Nat.le_of_ble_eq_true rfl) ⟨Nat.le_of_ble_eq_true rfl, Nat.le_of_ble_eq_true rfl⟩ ⟨Nat.le_of_ble_eq_true rfl, Nat.le_of_ble_eq_true rfl⟩ (by decide) (by decide) rfl rfl eL_law_406 ?_
        refine v_icmp_eq X (pc := 409) (tgt := 1328) h eL_law_409 (by decide) (fun h => ?_) (fun h => ?_)
        · refine v_iinc X (pc := 1328) (v := (x3 + (6 : Int32))) (lv' := [(3, _), (0, _), (1, _), (2, _)]) 3 rfl (by rfl) eL_law_1328 (Nat.le_of_ble_eq_true rfl) rfl ?_
          refine v_goto X (pc := 1331) (tgt := 18) eL_law_1331 (by decide) ?_
          exact v_sub [1, 2, 3, 0] rfl (ih _ _  h)
        · refine v_iconst X (pc := 412) (v := (0 : Int32)) eL_law_412 (by decide) ?_
          exact absurd (Prod.mk.inj (Option.some.inj h)).1 (by decide)
      have h := it_f h g5
      by_cases g6 : ((kx k x3.toNatClampNeg) &&& (63 : Int32)) = (6 : Int32)
      · have h := it_t h g6
        refine v_tsw X (pc := 33) (tgt := 414) (6 : Int32) g6 eL_law_33 (by decide) (by decide) rfl (by decide) ?_
        refine v_aload_n X (pc := 414) 1 rfl eL_law_414 rfl ?_
        refine v_aload_n X (pc := 415) 0 rfl eL_law_415 rfl ?_
        refine v_iload_n X (pc := 416) 3 rfl eL_law_416 rfl ?_
        refine v_iconst X (pc := 417) (v := (1 : Int32)) eL_law_417 (by decide) ?_
        refine v_iadd X (pc := 418) eL_law_418 ?_
        refine v_sld X (pc := 419) h eL_law_419 (fun h => ?_)
        refine v_aload_n X (pc := 420) 0 rfl eL_law_420 rfl ?_
        refine v_iload_n X (pc := 421) 3 rfl eL_law_421 rfl ?_
        refine v_iconst X (pc := 422) (v := (2 : Int32)) eL_law_422 (by decide) ?_
        refine v_iadd X (pc := 423) eL_law_423 ?_
        refine v_sld X (pc := 424) h eL_law_424 (fun h => ?_)
        obtain ⟨r13, m13, hc13, h⟩ := bd_some h
        refine v_callV X (pc := 425) [_, _] [] ok_V_L_39 (cW_hears  hc13) rfl (Nat.le_of_ble_eq_true rfl) ⟨Nat.le_of_ble_eq_true rfl, Nat.le_of_ble_eq_true rfl⟩ ⟨Nat.le_of_ble_eq_true rfl, Nat.le_of_ble_eq_true rfl⟩ (by decide) (by decide) rfl rfl eL_law_425 ?_
        refine v_aload_n X (pc := 428) 2 rfl eL_law_428 rfl ?_
        refine v_aload_n X (pc := 429) 0 rfl eL_law_429 rfl ?_
        refine v_iload_n X (pc := 430) 3 rfl eL_law_430 rfl ?_
        refine v_iconst X (pc := 431) (v := (1 : Int32)) eL_law_431 (by decide) ?_
        refine v_iadd X (pc := 432) eL_law_432 ?_
        refine v_sld X (pc := 433) h eL_law_433 (fun h => ?_)
        refine v_aload_n X (pc := 434) 0 rfl eL_law_434 rfl ?_
        refine v_iload_n X (pc := 435) 3 rfl eL_law_435 rfl ?_
        refine v_iconst X (pc := 436) (v := (2 : Int32)) eL_law_436 (by decide) ?_
        refine v_iadd X (pc := 437) eL_law_437 ?_
        refine v_sld X (pc := 438) h eL_law_438 (fun h => ?_)
        obtain ⟨r14, m14, hc14, h⟩ := bd_some h
        refine v_callV X (pc := 439) [_, _] [_] ok_V_L_42 (cM_hears  hc14) rfl (Nat.le_of_ble_eq_true rfl) ⟨Nat.le_of_ble_eq_true rfl, Nat.le_of_ble_eq_true rfl⟩ ⟨Nat.le_of_ble_eq_true rfl, Nat.le_of_ble_eq_true rfl⟩ (by decide) (by decide) rfl rfl eL_law_439 ?_
        refine v_icmp_eq X (pc := 442) (tgt := 1328) h eL_law_442 (by decide) (fun h => ?_) (fun h => ?_)
        · refine v_iinc X (pc := 1328) (v := (x3 + (6 : Int32))) (lv' := [(3, _), (0, _), (1, _), (2, _)]) 3 rfl (by rfl) eL_law_1328 (Nat.le_of_ble_eq_true rfl) rfl ?_
          refine v_goto X (pc := 1331) (tgt := 18) eL_law_1331 (by decide) ?_
          exact v_sub [1, 2, 3, 0] rfl (ih _ _  h)
        · refine v_iconst X (pc := 445) (v := (0 : Int32)) eL_law_445 (by decide) ?_
          exact absurd (Prod.mk.inj (Option.some.inj h)).1 (by decide)
      have h := it_f h g6
      by_cases g7 : ((kx k x3.toNatClampNeg) &&& (63 : Int32)) = (7 : Int32)
      · have h := it_t h g7
        refine v_tsw X (pc := 33) (tgt := 447) (7 : Int32) g7 eL_law_33 (by decide) (by decide) rfl (by decide) ?_
        refine v_aload_n X (pc := 447) 1 rfl eL_law_447 rfl ?_
        refine v_aload_n X (pc := 448) 0 rfl eL_law_448 rfl ?_
        refine v_iload_n X (pc := 449) 3 rfl eL_law_449 rfl ?_
        refine v_iconst X (pc := 450) (v := (1 : Int32)) eL_law_450 (by decide) ?_
        refine v_iadd X (pc := 451) eL_law_451 ?_
        refine v_sld X (pc := 452) h eL_law_452 (fun h => ?_)
        refine v_aload_n X (pc := 453) 0 rfl eL_law_453 rfl ?_
        refine v_iload_n X (pc := 454) 3 rfl eL_law_454 rfl ?_
        refine v_iconst X (pc := 455) (v := (2 : Int32)) eL_law_455 (by decide) ?_
        refine v_iadd X (pc := 456) eL_law_456 ?_
        refine v_sld X (pc := 457) h eL_law_457 (fun h => ?_)
        obtain ⟨r15, m15, hc15, h⟩ := bd_some h
        refine v_callV X (pc := 458) [_, _] [] ok_V_L_43 (cW_say  hc15) rfl (Nat.le_of_ble_eq_true rfl) ⟨Nat.le_of_ble_eq_true rfl, Nat.le_of_ble_eq_true rfl⟩ ⟨Nat.le_of_ble_eq_true rfl, Nat.le_of_ble_eq_true rfl⟩ (by decide) (by decide) rfl rfl eL_law_458 ?_
        refine v_aload_n X (pc := 461) 2 rfl eL_law_461 rfl ?_
        refine v_aload_n X (pc := 462) 0 rfl eL_law_462 rfl ?_
        refine v_iload_n X (pc := 463) 3 rfl eL_law_463 rfl ?_
        refine v_iconst X (pc := 464) (v := (1 : Int32)) eL_law_464 (by decide) ?_
        refine v_iadd X (pc := 465) eL_law_465 ?_
        refine v_sld X (pc := 466) h eL_law_466 (fun h => ?_)
        refine v_aload_n X (pc := 467) 0 rfl eL_law_467 rfl ?_
        refine v_iload_n X (pc := 468) 3 rfl eL_law_468 rfl ?_
        refine v_iconst X (pc := 469) (v := (2 : Int32)) eL_law_469 (by decide) ?_
        refine v_iadd X (pc := 470) eL_law_470 ?_
        refine v_sld X (pc := 471) h eL_law_471 (fun h => ?_)
        obtain ⟨r16, m16, hc16, h⟩ := bd_some h
        refine v_callV X (pc := 472) [_, _] [_] ok_V_L_46 (cM_say  hc16) rfl (Nat.le_of_ble_eq_true rfl) ⟨Nat.le_of_ble_eq_true rfl, Nat.le_of_ble_eq_true rfl⟩ ⟨Nat.le_of_ble_eq_true rfl, Nat.le_of_ble_eq_true rfl⟩ (by decide) (by decide) rfl rfl eL_law_472 ?_
        refine v_icmp_eq X (pc := 475) (tgt := 1328) h eL_law_475 (by decide) (fun h => ?_) (fun h => ?_)
        · refine v_iinc X (pc := 1328) (v := (x3 + (6 : Int32))) (lv' := [(3, _), (0, _), (1, _), (2, _)]) 3 rfl (by rfl) eL_law_1328 (Nat.le_of_ble_eq_true rfl) rfl ?_
          refine v_goto X (pc := 1331) (tgt := 18) eL_law_1331 (by decide) ?_
          exact v_sub [1, 2, 3, 0] rfl (ih _ _  h)
        · refine v_iconst X (pc := 478) (v := (0 : Int32)) eL_law_478 (by decide) ?_
          exact absurd (Prod.mk.inj (Option.some.inj h)).1 (by decide)
      have h := it_f h g7
      by_cases g8 : ((kx k x3.toNatClampNeg) &&& (63 : Int32)) = (8 : Int32)
      · have h := it_t h g8
        refine v_tsw X (pc := 33) (tgt := 480) (8 : Int32) g8 eL_law_33 (by decide) (by decide) rfl (by decide) ?_
        refine v_aload_n X (pc := 480) 1 rfl eL_law_480 rfl ?_
        refine v_aload_n X (pc := 481) 0 rfl eL_law_481 rfl ?_
        refine v_iload_n X (pc := 482) 3 rfl eL_law_482 rfl ?_
        refine v_iconst X (pc := 483) (v := (1 : Int32)) eL_law_483 (by decide) ?_
        refine v_iadd X (pc := 484) eL_law_484 ?_
        refine v_sld X (pc := 485) h eL_law_485 (fun h => ?_)
        obtain ⟨r17, m17, hc17, h⟩ := bd_some h
        refine v_callV X (pc := 486) [_] [] ok_V_L_47 (cW_pass  hc17) rfl (Nat.le_of_ble_eq_true rfl) ⟨Nat.le_of_ble_eq_true rfl, Nat.le_of_ble_eq_true rfl⟩ ⟨Nat.le_of_ble_eq_true rfl, Nat.le_of_ble_eq_true rfl⟩ (by decide) (by decide) rfl rfl eL_law_486 ?_
        refine v_aload_n X (pc := 489) 2 rfl eL_law_489 rfl ?_
        refine v_aload_n X (pc := 490) 0 rfl eL_law_490 rfl ?_
        refine v_iload_n X (pc := 491) 3 rfl eL_law_491 rfl ?_
        refine v_iconst X (pc := 492) (v := (1 : Int32)) eL_law_492 (by decide) ?_
        refine v_iadd X (pc := 493) eL_law_493 ?_
        refine v_sld X (pc := 494) h eL_law_494 (fun h => ?_)
        obtain ⟨r18, m18, hc18, h⟩ := bd_some h
        refine v_callV X (pc := 495) [_] [_] ok_V_L_51 (cM_pass  hc18) rfl (Nat.le_of_ble_eq_true rfl) ⟨Nat.le_of_ble_eq_true rfl, Nat.le_of_ble_eq_true rfl⟩ ⟨Nat.le_of_ble_eq_true rfl, Nat.le_of_ble_eq_true rfl⟩ (by decide) (by decide) rfl rfl eL_law_495 ?_
        refine v_icmp_eq X (pc := 498) (tgt := 1328) h eL_law_498 (by decide) (fun h => ?_) (fun h => ?_)
        · refine v_iinc X (pc := 1328) (v := (x3 + (6 : Int32))) (lv' := [(3, _), (0, _), (1, _), (2, _)]) 3 rfl (by rfl) eL_law_1328 (Nat.le_of_ble_eq_true rfl) rfl ?_
          refine v_goto X (pc := 1331) (tgt := 18) eL_law_1331 (by decide) ?_
          exact v_sub [1, 2, 3, 0] rfl (ih _ _  h)
        · refine v_iconst X (pc := 501) (v := (0 : Int32)) eL_law_501 (by decide) ?_
          exact absurd (Prod.mk.inj (Option.some.inj h)).1 (by decide)
      have h := it_f h g8
      by_cases g9 : ((kx k x3.toNatClampNeg) &&& (63 : Int32)) = (9 : Int32)
      · have h := it_t h g9
        refine v_tsw X (pc := 33) (tgt := 503) (9 : Int32) g9 eL_law_33 (by decide) (by decide) rfl (by decide) ?_
        refine v_aload_n X (pc := 503) 1 rfl eL_law_503 rfl ?_
        refine v_aload_n X (pc := 504) 0 rfl eL_law_504 rfl ?_
        refine v_iload_n X (pc := 505) 3 rfl eL_law_505 rfl ?_
        refine v_iconst X (pc := 506) (v := (1 : Int32)) eL_law_506 (by decide) ?_
        refine v_iadd X (pc := 507) eL_law_507 ?_
        refine v_sld X (pc := 508) h eL_law_508 (fun h => ?_)
        refine v_aload_n X (pc := 509) 0 rfl eL_law_509 rfl ?_
        refine v_iload_n X (pc := 510) 3 rfl eL_law_510 rfl ?_
        refine v_iconst X (pc := 511) (v := (2 : Int32)) eL_law_511 (by decide) ?_
        refine v_iadd X (pc := 512) eL_law_512 ?_
        refine v_sld X (pc := 513) h eL_law_513 (fun h => ?_)
        obtain ⟨r19, m19, hc19, h⟩ := bd_some h
        refine v_callV X (pc := 514) [_, _] [] ok_V_L_52 (cW_speak  hc19) rfl (Nat.le_of_ble_eq_true rfl) ⟨Nat.le_of_ble_eq_true rfl, Nat.le_of_ble_eq_true rfl⟩ ⟨Nat.le_of_ble_eq_true rfl, Nat.le_of_ble_eq_true rfl⟩ (by decide) (by decide) rfl rfl eL_law_514 ?_
        refine v_aload_n X (pc := 517) 2 rfl eL_law_517 rfl ?_
        refine v_aload_n X (pc := 518) 0 rfl eL_law_518 rfl ?_
        refine v_iload_n X (pc := 519) 3 rfl eL_law_519 rfl ?_
        refine v_iconst X (pc := 520) (v := (1 : Int32)) eL_law_520 (by decide) ?_
        refine v_iadd X (pc := 521) eL_law_521 ?_
        refine v_sld X (pc := 522) h eL_law_522 (fun h => ?_)
        refine v_aload_n X (pc := 523) 0 rfl eL_law_523 rfl ?_
        refine v_iload_n X (pc := 524) 3 rfl eL_law_524 rfl ?_
        refine v_iconst X (pc := 525) (v := (2 : Int32)) eL_law_525 (by decide) ?_
        refine v_iadd X (pc := 526) eL_law_526 ?_
        refine v_sld X (pc := 527) h eL_law_527 (fun h => ?_)
        obtain ⟨r20, m20, hc20, h⟩ := bd_some h
        refine v_callV X (pc := 528) [_, _] [_] ok_V_L_55 (cM_speak  hc20) rfl (Nat.le_of_ble_eq_true rfl) ⟨Nat.le_of_ble_eq_true rfl, Nat.le_of_ble_eq_true rfl⟩ ⟨Nat.le_of_ble_eq_true rfl, Nat.le_of_ble_eq_true rfl⟩ (by decide) (by decide) rfl rfl eL_law_528 ?_
        refine v_icmp_eq X (pc := 531) (tgt := 1328) h eL_law_531 (by decide) (fun h => ?_) (fun h => ?_)
        · refine v_iinc X (pc := 1328) (v := (x3 + (6 : Int32))) (lv' := [(3, _), (0, _), (1, _), (2, _)]) 3 rfl (by rfl) eL_law_1328 (Nat.le_of_ble_eq_true rfl) rfl ?_
          refine v_goto X (pc := 1331) (tgt := 18) eL_law_1331 (by decide) ?_
          exact v_sub [1, 2, 3, 0] rfl (ih _ _  h)
        · refine v_iconst X (pc := 534) (v := (0 : Int32)) eL_law_534 (by decide) ?_
          exact absurd (Prod.mk.inj (Option.some.inj h)).1 (by decide)
      have h := it_f h g9
      by_cases g10 : ((kx k x3.toNatClampNeg) &&& (63 : Int32)) = (10 : Int32)
      · have h := it_t h g10
        refine v_tsw X (pc := 33) (tgt := 536) (10 : Int32) g10 eL_law_33 (by decide) (by decide) rfl (by decide) ?_
        refine v_aload_n X (pc := 536) 1 rfl eL_law_536 rfl ?_
        refine v_aload_n X (pc := 537) 0 rfl eL_law_537 rfl ?_
        refine v_iload_n X (pc := 538) 3 rfl eL_law_538 rfl ?_
        refine v_iconst X (pc := 539) (v := (1 : Int32)) eL_law_539 (by decide) ?_
        refine v_iadd X (pc := 540) eL_law_540 ?_
        refine v_sld X (pc := 541) h eL_law_541 (fun h => ?_)
        obtain ⟨r21, m21, hc21, h⟩ := bd_some h
        refine v_callV X (pc := 542) [_] [] ok_V_L_56 (cW_reach  hc21) rfl (Nat.le_of_ble_eq_true rfl) ⟨Nat.le_of_ble_eq_true rfl, Nat.le_of_ble_eq_true rfl⟩ ⟨Nat.le_of_ble_eq_true rfl, Nat.le_of_ble_eq_true rfl⟩ (by decide) (by decide) rfl rfl eL_law_542 ?_
        refine v_aload_n X (pc := 545) 2 rfl eL_law_545 rfl ?_
        refine v_aload_n X (pc := 546) 0 rfl eL_law_546 rfl ?_
        refine v_iload_n X (pc := 547) 3 rfl eL_law_547 rfl ?_
        refine v_iconst X (pc := 548) (v := (1 : Int32)) eL_law_548 (by decide) ?_
        refine v_iadd X (pc := 549) eL_law_549 ?_
        refine v_sld X (pc := 550) h eL_law_550 (fun h => ?_)
        obtain ⟨r22, m22, hc22, h⟩ := bd_some h
        refine v_callV X (pc := 551) [_] [_] ok_V_L_59 (cM_reach  hc22) rfl (Nat.le_of_ble_eq_true rfl) ⟨Nat.le_of_ble_eq_true rfl, Nat.le_of_ble_eq_true rfl⟩ ⟨Nat.le_of_ble_eq_true rfl, Nat.le_of_ble_eq_true rfl⟩ (by decide) (by decide) rfl rfl eL_law_551 ?_
        refine v_icmp_eq X (pc := 554) (tgt := 1328) h eL_law_554 (by decide) (fun h => ?_) (fun h => ?_)
        · refine v_iinc X (pc := 1328) (v := (x3 + (6 : Int32))) (lv' := [(3, _), (0, _), (1, _), (2, _)]) 3 rfl (by rfl) eL_law_1328 (Nat.le_of_ble_eq_true rfl) rfl ?_
          refine v_goto X (pc := 1331) (tgt := 18) eL_law_1331 (by decide) ?_
          exact v_sub [1, 2, 3, 0] rfl (ih _ _  h)
        · refine v_iconst X (pc := 557) (v := (0 : Int32)) eL_law_557 (by decide) ?_
          exact absurd (Prod.mk.inj (Option.some.inj h)).1 (by decide)
      have h := it_f h g10
      by_cases g11 : ((kx k x3.toNatClampNeg) &&& (63 : Int32)) = (11 : Int32)
      · have h := it_t h g11
        refine v_tsw X (pc := 33) (tgt := 559) (11 : Int32) g11 eL_law_33 (by decide) (by decide) rfl (by decide) ?_
        refine v_aload_n X (pc := 559) 1 rfl eL_law_559 rfl ?_
        refine v_aload_n X (pc := 560) 0 rfl eL_law_560 rfl ?_
        refine v_iload_n X (pc := 561) 3 rfl eL_law_561 rfl ?_
        refine v_iconst X (pc := 562) (v := (1 : Int32)) eL_law_562 (by decide) ?_
        refine v_iadd X (pc := 563) eL_law_563 ?_
        refine v_sld X (pc := 564) h eL_law_564 (fun h => ?_)
        obtain ⟨r23, m23, hc23, h⟩ := bd_some h
        refine v_callV X (pc := 565) [_] [] ok_V_L_60 (cW_duty  hc23) rfl (Nat.le_of_ble_eq_true rfl) ⟨Nat.le_of_ble_eq_true rfl, Nat.le_of_ble_eq_true rfl⟩ ⟨Nat.le_of_ble_eq_true rfl, Nat.le_of_ble_eq_true rfl⟩ (by decide) (by decide) rfl rfl eL_law_565 ?_
        refine v_aload_n X (pc := 568) 2 rfl eL_law_568 rfl ?_
        refine v_aload_n X (pc := 569) 0 rfl eL_law_569 rfl ?_
        refine v_iload_n X (pc := 570) 3 rfl eL_law_570 rfl ?_
        refine v_iconst X (pc := 571) (v := (1 : Int32)) eL_law_571 (by decide) ?_
        refine v_iadd X (pc := 572) eL_law_572 ?_
        refine v_sld X (pc := 573) h eL_law_573 (fun h => ?_)
        obtain ⟨r24, m24, hc24, h⟩ := bd_some h
        refine v_callV X (pc := 574) [_] [_] ok_V_L_63 (cM_duty  hc24) rfl (Nat.le_of_ble_eq_true rfl) ⟨Nat.le_of_ble_eq_true rfl, Nat.le_of_ble_eq_true rfl⟩ ⟨Nat.le_of_ble_eq_true rfl, Nat.le_of_ble_eq_true rfl⟩ (by decide) (by decide) rfl rfl eL_law_574 ?_
        refine v_icmp_eq X (pc := 577) (tgt := 1328) h eL_law_577 (by decide) (fun h => ?_) (fun h => ?_)
        · refine v_iinc X (pc := 1328) (v := (x3 + (6 : Int32))) (lv' := [(3, _), (0, _), (1, _), (2, _)]) 3 rfl (by rfl) eL_law_1328 (Nat.le_of_ble_eq_true rfl) rfl ?_
          refine v_goto X (pc := 1331) (tgt := 18) eL_law_1331 (by decide) ?_
          exact v_sub [1, 2, 3, 0] rfl (ih _ _  h)
        · refine v_iconst X (pc := 580) (v := (0 : Int32)) eL_law_580 (by decide) ?_
          exact absurd (Prod.mk.inj (Option.some.inj h)).1 (by decide)
      have h := it_f h g11
      by_cases g12 : ((kx k x3.toNatClampNeg) &&& (63 : Int32)) = (12 : Int32)
      · have h := it_t h g12
        refine v_tsw X (pc := 33) (tgt := 582) (12 : Int32) g12 eL_law_33 (by decide) (by decide) rfl (by decide) ?_
        refine v_aload_n X (pc := 582) 1 rfl eL_law_582 rfl ?_
        refine v_aload_n X (pc := 583) 0 rfl eL_law_583 rfl ?_
        refine v_iload_n X (pc := 584) 3 rfl eL_law_584 rfl ?_
        refine v_iconst X (pc := 585) (v := (1 : Int32)) eL_law_585 (by decide) ?_
        refine v_iadd X (pc := 586) eL_law_586 ?_
        refine v_sld X (pc := 587) h eL_law_587 (fun h => ?_)
        obtain ⟨r25, m25, hc25, h⟩ := bd_some h
        refine v_callV X (pc := 588) [_] [] ok_V_L_64 (cW_now  hc25) rfl (Nat.le_of_ble_eq_true rfl) ⟨Nat.le_of_ble_eq_true rfl, Nat.le_of_ble_eq_true rfl⟩ ⟨Nat.le_of_ble_eq_true rfl, Nat.le_of_ble_eq_true rfl⟩ (by decide) (by decide) rfl rfl eL_law_588 ?_
        refine v_aload_n X (pc := 591) 2 rfl eL_law_591 rfl ?_
        refine v_aload_n X (pc := 592) 0 rfl eL_law_592 rfl ?_
        refine v_iload_n X (pc := 593) 3 rfl eL_law_593 rfl ?_
        refine v_iconst X (pc := 594) (v := (1 : Int32)) eL_law_594 (by decide) ?_
        refine v_iadd X (pc := 595) eL_law_595 ?_
        refine v_sld X (pc := 596) h eL_law_596 (fun h => ?_)
        obtain ⟨r26, m26, hc26, h⟩ := bd_some h
        refine v_callV X (pc := 597) [_] [_] ok_V_L_67 (cM_now  hc26) rfl (Nat.le_of_ble_eq_true rfl) ⟨Nat.le_of_ble_eq_true rfl, Nat.le_of_ble_eq_true rfl⟩ ⟨Nat.le_of_ble_eq_true rfl, Nat.le_of_ble_eq_true rfl⟩ (by decide) (by decide) rfl rfl eL_law_597 ?_
        refine v_icmp_eq X (pc := 600) (tgt := 1328) h eL_law_600 (by decide) (fun h => ?_) (fun h => ?_)
        · refine v_iinc X (pc := 1328) (v := (x3 + (6 : Int32))) (lv' := [(3, _), (0, _), (1, _), (2, _)]) 3 rfl (by rfl) eL_law_1328 (Nat.le_of_ble_eq_true rfl) rfl ?_
          refine v_goto X (pc := 1331) (tgt := 18) eL_law_1331 (by decide) ?_
          exact v_sub [1, 2, 3, 0] rfl (ih _ _  h)
        · refine v_iconst X (pc := 603) (v := (0 : Int32)) eL_law_603 (by decide) ?_
          exact absurd (Prod.mk.inj (Option.some.inj h)).1 (by decide)
      have h := it_f h g12
      by_cases g13 : ((kx k x3.toNatClampNeg) &&& (63 : Int32)) = (13 : Int32)
      · have h := it_t h g13
        refine v_tsw X (pc := 33) (tgt := 605) (13 : Int32) g13 eL_law_33 (by decide) (by decide) rfl (by decide) ?_
        refine v_aload_n X (pc := 605) 1 rfl eL_law_605 rfl ?_
        refine v_aload_n X (pc := 606) 0 rfl eL_law_606 rfl ?_
        refine v_iload_n X (pc := 607) 3 rfl eL_law_607 rfl ?_
        refine v_iconst X (pc := 608) (v := (1 : Int32)) eL_law_608 (by decide) ?_
        refine v_iadd X (pc := 609) eL_law_609 ?_
        refine v_sld X (pc := 610) h eL_law_610 (fun h => ?_)
        obtain ⟨r27, m27, hc27, h⟩ := bd_some h
        refine v_callV X (pc := 611) [_] [] ok_V_L_68 (cW_filed  hc27) rfl (Nat.le_of_ble_eq_true rfl) ⟨Nat.le_of_ble_eq_true rfl, Nat.le_of_ble_eq_true rfl⟩ ⟨Nat.le_of_ble_eq_true rfl, Nat.le_of_ble_eq_true rfl⟩ (by decide) (by decide) rfl rfl eL_law_611 ?_
        refine v_aload_n X (pc := 614) 2 rfl eL_law_614 rfl ?_
        refine v_aload_n X (pc := 615) 0 rfl eL_law_615 rfl ?_
        refine v_iload_n X (pc := 616) 3 rfl eL_law_616 rfl ?_
        refine v_iconst X (pc := 617) (v := (1 : Int32)) eL_law_617 (by decide) ?_
        refine v_iadd X (pc := 618) eL_law_618 ?_
        refine v_sld X (pc := 619) h eL_law_619 (fun h => ?_)
        obtain ⟨r28, m28, hc28, h⟩ := bd_some h
        refine v_callV X (pc := 620) [_] [_] ok_V_L_71 (cM_filed  hc28) rfl (Nat.le_of_ble_eq_true rfl) ⟨Nat.le_of_ble_eq_true rfl, Nat.le_of_ble_eq_true rfl⟩ ⟨Nat.le_of_ble_eq_true rfl, Nat.le_of_ble_eq_true rfl⟩ (by decide) (by decide) rfl rfl eL_law_620 ?_
        refine v_icmp_eq X (pc := 623) (tgt := 1328) h eL_law_623 (by decide) (fun h => ?_) (fun h => ?_)
        · refine v_iinc X (pc := 1328) (v := (x3 + (6 : Int32))) (lv' := [(3, _), (0, _), (1, _), (2, _)]) 3 rfl (by rfl) eL_law_1328 (Nat.le_of_ble_eq_true rfl) rfl ?_
          refine v_goto X (pc := 1331) (tgt := 18) eL_law_1331 (by decide) ?_
          exact v_sub [1, 2, 3, 0] rfl (ih _ _  h)
        · refine v_iconst X (pc := 626) (v := (0 : Int32)) eL_law_626 (by decide) ?_
          exact absurd (Prod.mk.inj (Option.some.inj h)).1 (by decide)
      have h := it_f h g13
      by_cases g14 : ((kx k x3.toNatClampNeg) &&& (63 : Int32)) = (14 : Int32)
      · have h := it_t h g14
        refine v_tsw X (pc := 33) (tgt := 628) (14 : Int32) g14 eL_law_33 (by decide) (by decide) rfl (by decide) ?_
        refine v_aload_n X (pc := 628) 1 rfl eL_law_628 rfl ?_
        refine v_aload_n X (pc := 629) 0 rfl eL_law_629 rfl ?_
        refine v_iload_n X (pc := 630) 3 rfl eL_law_630 rfl ?_
        refine v_iconst X (pc := 631) (v := (1 : Int32)) eL_law_631 (by decide) ?_
        refine v_iadd X (pc := 632) eL_law_632 ?_
        refine v_sld X (pc := 633) h eL_law_633 (fun h => ?_)
        refine v_aload_n X (pc := 634) 0 rfl eL_law_634 rfl ?_
        refine v_iload_n X (pc := 635) 3 rfl eL_law_635 rfl ?_
        refine v_iconst X (pc := 636) (v := (2 : Int32)) eL_law_636 (by decide) ?_
        refine v_iadd X (pc := 637) eL_law_637 ?_
        refine v_sld X (pc := 638) h eL_law_638 (fun h => ?_)
        obtain ⟨r29, m29, hc29, h⟩ := bd_some h
        refine v_callV X (pc := 639) [_, _] [] ok_V_L_72 (cW_safe  hc29) rfl (Nat.le_of_ble_eq_true rfl) ⟨Nat.le_of_ble_eq_true rfl, Nat.le_of_ble_eq_true rfl⟩ ⟨Nat.le_of_ble_eq_true rfl, Nat.le_of_ble_eq_true rfl⟩ (by decide) (by decide) rfl rfl eL_law_639 ?_
        refine v_aload_n X (pc := 642) 2 rfl eL_law_642 rfl ?_
        refine v_aload_n X (pc := 643) 0 rfl eL_law_643 rfl ?_
        refine v_iload_n X (pc := 644) 3 rfl eL_law_644 rfl ?_
        refine v_iconst X (pc := 645) (v := (1 : Int32)) eL_law_645 (by decide) ?_
        refine v_iadd X (pc := 646) eL_law_646 ?_
        refine v_sld X (pc := 647) h eL_law_647 (fun h => ?_)
        refine v_aload_n X (pc := 648) 0 rfl eL_law_648 rfl ?_
        refine v_iload_n X (pc := 649) 3 rfl eL_law_649 rfl ?_
        refine v_iconst X (pc := 650) (v := (2 : Int32)) eL_law_650 (by decide) ?_
        refine v_iadd X (pc := 651) eL_law_651 ?_
        refine v_sld X (pc := 652) h eL_law_652 (fun h => ?_)
        obtain ⟨r30, m30, hc30, h⟩ := bd_some h
        refine v_callV X (pc := 653) [_, _] [_] ok_V_L_75 (cM_safe  hc30) rfl (Nat.le_of_ble_eq_true rfl) ⟨Nat.le_of_ble_eq_true rfl, Nat.le_of_ble_eq_true rfl⟩ ⟨Nat.le_of_ble_eq_true rfl, Nat.le_of_ble_eq_true rfl⟩ (by decide) (by decide) rfl rfl eL_law_653 ?_
        refine v_icmp_eq X (pc := 656) (tgt := 1328) h eL_law_656 (by decide) (fun h => ?_) (fun h => ?_)
        · refine v_iinc X (pc := 1328) (v := (x3 + (6 : Int32))) (lv' := [(3, _), (0, _), (1, _), (2, _)]) 3 rfl (by rfl) eL_law_1328 (Nat.le_of_ble_eq_true rfl) rfl ?_
          refine v_goto X (pc := 1331) (tgt := 18) eL_law_1331 (by decide) ?_
          exact v_sub [1, 2, 3, 0] rfl (ih _ _  h)
        · refine v_iconst X (pc := 659) (v := (0 : Int32)) eL_law_659 (by decide) ?_
          exact absurd (Prod.mk.inj (Option.some.inj h)).1 (by decide)
      have h := it_f h g14
      by_cases g15 : ((kx k x3.toNatClampNeg) &&& (63 : Int32)) = (15 : Int32)
      · have h := it_t h g15
        refine v_tsw X (pc := 33) (tgt := 661) (15 : Int32) g15 eL_law_33 (by decide) (by decide) rfl (by decide) ?_
        refine v_aload_n X (pc := 661) 1 rfl eL_law_661 rfl ?_
        refine v_aload_n X (pc := 662) 0 rfl eL_law_662 rfl ?_
        refine v_iload_n X (pc := 663) 3 rfl eL_law_663 rfl ?_
        refine v_iconst X (pc := 664) (v := (1 : Int32)) eL_law_664 (by decide) ?_
        refine v_iadd X (pc := 665) eL_law_665 ?_
        refine v_sld X (pc := 666) h eL_law_666 (fun h => ?_)
        obtain ⟨r31, m31, hc31, h⟩ := bd_some h
        refine v_callV X (pc := 667) [_] [] ok_V_L_76 (cW_where  hc31) rfl (Nat.le_of_ble_eq_true rfl) ⟨Nat.le_of_ble_eq_true rfl, Nat.le_of_ble_eq_true rfl⟩ ⟨Nat.le_of_ble_eq_true rfl, Nat.le_of_ble_eq_true rfl⟩ (by decide) (by decide) rfl rfl eL_law_667 ?_
        refine v_aload_n X (pc := 670) 2 rfl eL_law_670 rfl ?_
        refine v_aload_n X (pc := 671) 0 rfl eL_law_671 rfl ?_
        refine v_iload_n X (pc := 672) 3 rfl eL_law_672 rfl ?_
        refine v_iconst X (pc := 673) (v := (1 : Int32)) eL_law_673 (by decide) ?_
        refine v_iadd X (pc := 674) eL_law_674 ?_
        refine v_sld X (pc := 675) h eL_law_675 (fun h => ?_)
        obtain ⟨r32, m32, hc32, h⟩ := bd_some h
        refine v_callV X (pc := 676) [_] [_] ok_V_L_79 (cM_where  hc32) rfl (Nat.le_of_ble_eq_true rfl) ⟨Nat.le_of_ble_eq_true rfl, Nat.le_of_ble_eq_true rfl⟩ ⟨Nat.le_of_ble_eq_true rfl, Nat.le_of_ble_eq_true rfl⟩ (by decide) (by decide) rfl rfl eL_law_676 ?_
        refine v_icmp_eq X (pc := 679) (tgt := 1328) h eL_law_679 (by decide) (fun h => ?_) (fun h => ?_)
        · refine v_iinc X (pc := 1328) (v := (x3 + (6 : Int32))) (lv' := [(3, _), (0, _), (1, _), (2, _)]) 3 rfl (by rfl) eL_law_1328 (Nat.le_of_ble_eq_true rfl) rfl ?_
          refine v_goto X (pc := 1331) (tgt := 18) eL_law_1331 (by decide) ?_
          exact v_sub [1, 2, 3, 0] rfl (ih _ _  h)
        · refine v_iconst X (pc := 682) (v := (0 : Int32)) eL_law_682 (by decide) ?_
          exact absurd (Prod.mk.inj (Option.some.inj h)).1 (by decide)
      have h := it_f h g15
      by_cases g16 : ((kx k x3.toNatClampNeg) &&& (63 : Int32)) = (16 : Int32)
      · have h := it_t h g16
        refine v_tsw X (pc := 33) (tgt := 684) (16 : Int32) g16 eL_law_33 (by decide) (by decide) rfl (by decide) ?_
        refine v_aload_n X (pc := 684) 1 rfl eL_law_684 rfl ?_
        refine v_aload_n X (pc := 685) 0 rfl eL_law_685 rfl ?_
        refine v_iload_n X (pc := 686) 3 rfl eL_law_686 rfl ?_
        refine v_iconst X (pc := 687) (v := (1 : Int32)) eL_law_687 (by decide) ?_
        refine v_iadd X (pc := 688) eL_law_688 ?_
        refine v_sld X (pc := 689) h eL_law_689 (fun h => ?_)
        refine v_aload_n X (pc := 690) 0 rfl eL_law_690 rfl ?_
        refine v_iload_n X (pc := 691) 3 rfl eL_law_691 rfl ?_
        refine v_iconst X (pc := 692) (v := (2 : Int32)) eL_law_692 (by decide) ?_
        refine v_iadd X (pc := 693) eL_law_693 ?_
        refine v_sld X (pc := 694) h eL_law_694 (fun h => ?_)
        obtain ⟨r33, m33, hc33, h⟩ := bd_some h
        refine v_callV X (pc := 695) [_, _] [] ok_V_L_80 (cW_quiet  hc33) rfl (Nat.le_of_ble_eq_true rfl) ⟨Nat.le_of_ble_eq_true rfl, Nat.le_of_ble_eq_true rfl⟩ ⟨Nat.le_of_ble_eq_true rfl, Nat.le_of_ble_eq_true rfl⟩ (by decide) (by decide) rfl rfl eL_law_695 ?_
        refine v_aload_n X (pc := 698) 2 rfl eL_law_698 rfl ?_
        refine v_aload_n X (pc := 699) 0 rfl eL_law_699 rfl ?_
        refine v_iload_n X (pc := 700) 3 rfl eL_law_700 rfl ?_
        refine v_iconst X (pc := 701) (v := (1 : Int32)) eL_law_701 (by decide) ?_
        refine v_iadd X (pc := 702) eL_law_702 ?_
        refine v_sld X (pc := 703) h eL_law_703 (fun h => ?_)
        refine v_aload_n X (pc := 704) 0 rfl eL_law_704 rfl ?_
        refine v_iload_n X (pc := 705) 3 rfl eL_law_705 rfl ?_
        refine v_iconst X (pc := 706) (v := (2 : Int32)) eL_law_706 (by decide) ?_
        refine v_iadd X (pc := 707) eL_law_707 ?_
        refine v_sld X (pc := 708) h eL_law_708 (fun h => ?_)
        obtain ⟨r34, m34, hc34, h⟩ := bd_some h
        refine v_callV X (pc := 709) [_, _] [_] ok_V_L_83 (cM_quiet  hc34) rfl (Nat.le_of_ble_eq_true rfl) ⟨Nat.le_of_ble_eq_true rfl, Nat.le_of_ble_eq_true rfl⟩ ⟨Nat.le_of_ble_eq_true rfl, Nat.le_of_ble_eq_true rfl⟩ (by decide) (by decide) rfl rfl eL_law_709 ?_
        refine v_icmp_eq X (pc := 712) (tgt := 1328) h eL_law_712 (by decide) (fun h => ?_) (fun h => ?_)
        · refine v_iinc X (pc := 1328) (v := (x3 + (6 : Int32))) (lv' := [(3, _), (0, _), (1, _), (2, _)]) 3 rfl (by rfl) eL_law_1328 (Nat.le_of_ble_eq_true rfl) rfl ?_
          refine v_goto X (pc := 1331) (tgt := 18) eL_law_1331 (by decide) ?_
          exact v_sub [1, 2, 3, 0] rfl (ih _ _  h)
        · refine v_iconst X (pc := 715) (v := (0 : Int32)) eL_law_715 (by decide) ?_
          exact absurd (Prod.mk.inj (Option.some.inj h)).1 (by decide)
      have h := it_f h g16
      by_cases g17 : ((kx k x3.toNatClampNeg) &&& (63 : Int32)) = (17 : Int32)
      · have h := it_t h g17
        refine v_tsw X (pc := 33) (tgt := 717) (17 : Int32) g17 eL_law_33 (by decide) (by decide) rfl (by decide) ?_
        refine v_aload_n X (pc := 717) 1 rfl eL_law_717 rfl ?_
        refine v_aload_n X (pc := 718) 0 rfl eL_law_718 rfl ?_
        refine v_iload_n X (pc := 719) 3 rfl eL_law_719 rfl ?_
        refine v_iconst X (pc := 720) (v := (1 : Int32)) eL_law_720 (by decide) ?_
        refine v_iadd X (pc := 721) eL_law_721 ?_
        refine v_sld X (pc := 722) h eL_law_722 (fun h => ?_)
        refine v_aload_n X (pc := 723) 0 rfl eL_law_723 rfl ?_
        refine v_iload_n X (pc := 724) 3 rfl eL_law_724 rfl ?_
        refine v_iconst X (pc := 725) (v := (2 : Int32)) eL_law_725 (by decide) ?_
        refine v_iadd X (pc := 726) eL_law_726 ?_
        refine v_sld X (pc := 727) h eL_law_727 (fun h => ?_)
        obtain ⟨r35, m35, hc35, h⟩ := bd_some h
        refine v_callV X (pc := 728) [_, _] [] ok_V_L_84 (cW_worst  hc35) rfl (Nat.le_of_ble_eq_true rfl) ⟨Nat.le_of_ble_eq_true rfl, Nat.le_of_ble_eq_true rfl⟩ ⟨Nat.le_of_ble_eq_true rfl, Nat.le_of_ble_eq_true rfl⟩ (by decide) (by decide) rfl rfl eL_law_728 ?_
        refine v_aload_n X (pc := 731) 2 rfl eL_law_731 rfl ?_
        refine v_aload_n X (pc := 732) 0 rfl eL_law_732 rfl ?_
        refine v_iload_n X (pc := 733) 3 rfl eL_law_733 rfl ?_
        refine v_iconst X (pc := 734) (v := (1 : Int32)) eL_law_734 (by decide) ?_
        refine v_iadd X (pc := 735) eL_law_735 ?_
        refine v_sld X (pc := 736) h eL_law_736 (fun h => ?_)
        refine v_aload_n X (pc := 737) 0 rfl eL_law_737 rfl ?_
        refine v_iload_n X (pc := 738) 3 rfl eL_law_738 rfl ?_
        refine v_iconst X (pc := 739) (v := (2 : Int32)) eL_law_739 (by decide) ?_
        refine v_iadd X (pc := 740) eL_law_740 ?_
        refine v_sld X (pc := 741) h eL_law_741 (fun h => ?_)
        obtain ⟨r36, m36, hc36, h⟩ := bd_some h
        refine v_callV X (pc := 742) [_, _] [_] ok_V_L_87 (cM_worst  hc36) rfl (Nat.le_of_ble_eq_true rfl) ⟨Nat.le_of_ble_eq_true rfl, Nat.le_of_ble_eq_true rfl⟩ ⟨Nat.le_of_ble_eq_true rfl, Nat.le_of_ble_eq_true rfl⟩ (by decide) (by decide) rfl rfl eL_law_742 ?_
        refine v_icmp_eq X (pc := 745) (tgt := 1328) h eL_law_745 (by decide) (fun h => ?_) (fun h => ?_)
        · refine v_iinc X (pc := 1328) (v := (x3 + (6 : Int32))) (lv' := [(3, _), (0, _), (1, _), (2, _)]) 3 rfl (by rfl) eL_law_1328 (Nat.le_of_ble_eq_true rfl) rfl ?_
          refine v_goto X (pc := 1331) (tgt := 18) eL_law_1331 (by decide) ?_
          exact v_sub [1, 2, 3, 0] rfl (ih _ _  h)
        · refine v_iconst X (pc := 748) (v := (0 : Int32)) eL_law_748 (by decide) ?_
          exact absurd (Prod.mk.inj (Option.some.inj h)).1 (by decide)
      have h := it_f h g17
      by_cases g18 : ((kx k x3.toNatClampNeg) &&& (63 : Int32)) = (18 : Int32)
      · have h := it_t h g18
        refine v_tsw X (pc := 33) (tgt := 750) (18 : Int32) g18 eL_law_33 (by decide) (by decide) rfl (by decide) ?_
        refine v_aload_n X (pc := 750) 1 rfl eL_law_750 rfl ?_
        refine v_aload_n X (pc := 751) 0 rfl eL_law_751 rfl ?_
        refine v_iload_n X (pc := 752) 3 rfl eL_law_752 rfl ?_
        refine v_iconst X (pc := 753) (v := (1 : Int32)) eL_law_753 (by decide) ?_
        refine v_iadd X (pc := 754) eL_law_754 ?_
        refine v_sld X (pc := 755) h eL_law_755 (fun h => ?_)
        refine v_aload_n X (pc := 756) 0 rfl eL_law_756 rfl ?_
        refine v_iload_n X (pc := 757) 3 rfl eL_law_757 rfl ?_
        refine v_iconst X (pc := 758) (v := (2 : Int32)) eL_law_758 (by decide) ?_
        refine v_iadd X (pc := 759) eL_law_759 ?_
        refine v_sld X (pc := 760) h eL_law_760 (fun h => ?_)
        obtain ⟨r37, m37, hc37, h⟩ := bd_some h
        refine v_callV X (pc := 761) [_, _] [] ok_V_L_88 (cW_cover  hc37) rfl (Nat.le_of_ble_eq_true rfl) ⟨Nat.le_of_ble_eq_true rfl, Nat.le_of_ble_eq_true rfl⟩ ⟨Nat.le_of_ble_eq_true rfl, Nat.le_of_ble_eq_true rfl⟩ (by decide) (by decide) rfl rfl eL_law_761 ?_
        refine v_aload_n X (pc := 764) 2 rfl eL_law_764 rfl ?_
        refine v_aload_n X (pc := 765) 0 rfl eL_law_765 rfl ?_
        refine v_iload_n X (pc := 766) 3 rfl eL_law_766 rfl ?_
        refine v_iconst X (pc := 767) (v := (1 : Int32)) eL_law_767 (by decide) ?_
        refine v_iadd X (pc := 768) eL_law_768 ?_
        refine v_sld X (pc := 769) h eL_law_769 (fun h => ?_)
        refine v_aload_n X (pc := 770) 0 rfl eL_law_770 rfl ?_
        refine v_iload_n X (pc := 771) 3 rfl eL_law_771 rfl ?_
        refine v_iconst X (pc := 772) (v := (2 : Int32)) eL_law_772 (by decide) ?_
        refine v_iadd X (pc := 773) eL_law_773 ?_
        refine v_sld X (pc := 774) h eL_law_774 (fun h => ?_)
        obtain ⟨r38, m38, hc38, h⟩ := bd_some h
        refine v_callV X (pc := 775) [_, _] [_] ok_V_L_91 (cM_cover  hc38) rfl (Nat.le_of_ble_eq_true rfl) ⟨Nat.le_of_ble_eq_true rfl, Nat.le_of_ble_eq_true rfl⟩ ⟨Nat.le_of_ble_eq_true rfl, Nat.le_of_ble_eq_true rfl⟩ (by decide) (by decide) rfl rfl eL_law_775 ?_
        refine v_icmp_eq X (pc := 778) (tgt := 1328) h eL_law_778 (by decide) (fun h => ?_) (fun h => ?_)
        · refine v_iinc X (pc := 1328) (v := (x3 + (6 : Int32))) (lv' := [(3, _), (0, _), (1, _), (2, _)]) 3 rfl (by rfl) eL_law_1328 (Nat.le_of_ble_eq_true rfl) rfl ?_
          refine v_goto X (pc := 1331) (tgt := 18) eL_law_1331 (by decide) ?_
          exact v_sub [1, 2, 3, 0] rfl (ih _ _  h)
        · refine v_iconst X (pc := 781) (v := (0 : Int32)) eL_law_781 (by decide) ?_
          exact absurd (Prod.mk.inj (Option.some.inj h)).1 (by decide)
      have h := it_f h g18
      by_cases g19 : ((kx k x3.toNatClampNeg) &&& (63 : Int32)) = (19 : Int32)
      · have h := it_t h g19
        refine v_tsw X (pc := 33) (tgt := 783) (19 : Int32) g19 eL_law_33 (by decide) (by decide) rfl (by decide) ?_
        refine v_aload_n X (pc := 783) 1 rfl eL_law_783 rfl ?_
        refine v_aload_n X (pc := 784) 0 rfl eL_law_784 rfl ?_
        refine v_iload_n X (pc := 785) 3 rfl eL_law_785 rfl ?_
        refine v_iconst X (pc := 786) (v := (1 : Int32)) eL_law_786 (by decide) ?_
        refine v_iadd X (pc := 787) eL_law_787 ?_
        refine v_sld X (pc := 788) h eL_law_788 (fun h => ?_)
        refine v_aload_n X (pc := 789) 0 rfl eL_law_789 rfl ?_
        refine v_iload_n X (pc := 790) 3 rfl eL_law_790 rfl ?_
        refine v_iconst X (pc := 791) (v := (2 : Int32)) eL_law_791 (by decide) ?_
        refine v_iadd X (pc := 792) eL_law_792 ?_
        refine v_sld X (pc := 793) h eL_law_793 (fun h => ?_)
        obtain ⟨r39, m39, hc39, h⟩ := bd_some h
        refine v_callV X (pc := 794) [_, _] [] ok_V_L_92 (cW_shift  hc39) rfl (Nat.le_of_ble_eq_true rfl) ⟨Nat.le_of_ble_eq_true rfl, Nat.le_of_ble_eq_true rfl⟩ ⟨Nat.le_of_ble_eq_true rfl, Nat.le_of_ble_eq_true rfl⟩ (by decide) (by decide) rfl rfl eL_law_794 ?_
        refine v_aload_n X (pc := 797) 2 rfl eL_law_797 rfl ?_
        refine v_aload_n X (pc := 798) 0 rfl eL_law_798 rfl ?_
        refine v_iload_n X (pc := 799) 3 rfl eL_law_799 rfl ?_
        refine v_iconst X (pc := 800) (v := (1 : Int32)) eL_law_800 (by decide) ?_
        refine v_iadd X (pc := 801) eL_law_801 ?_
        refine v_sld X (pc := 802) h eL_law_802 (fun h => ?_)
        refine v_aload_n X (pc := 803) 0 rfl eL_law_803 rfl ?_
        refine v_iload_n X (pc := 804) 3 rfl eL_law_804 rfl ?_
        refine v_iconst X (pc := 805) (v := (2 : Int32)) eL_law_805 (by decide) ?_
        refine v_iadd X (pc := 806) eL_law_806 ?_
        refine v_sld X (pc := 807) h eL_law_807 (fun h => ?_)
        obtain ⟨r40, m40, hc40, h⟩ := bd_some h
        refine v_callV X (pc := 808) [_, _] [_] ok_V_L_95 (cM_shift  hc40) rfl (Nat.le_of_ble_eq_true rfl) ⟨Nat.le_of_ble_eq_true rfl, Nat.le_of_ble_eq_true rfl⟩ ⟨Nat.le_of_ble_eq_true rfl, Nat.le_of_ble_eq_true rfl⟩ (by decide) (by decide) rfl rfl eL_law_808 ?_
        refine v_icmp_eq X (pc := 811) (tgt := 1328) h eL_law_811 (by decide) (fun h => ?_) (fun h => ?_)
        · refine v_iinc X (pc := 1328) (v := (x3 + (6 : Int32))) (lv' := [(3, _), (0, _), (1, _), (2, _)]) 3 rfl (by rfl) eL_law_1328 (Nat.le_of_ble_eq_true rfl) rfl ?_
          refine v_goto X (pc := 1331) (tgt := 18) eL_law_1331 (by decide) ?_
          exact v_sub [1, 2, 3, 0] rfl (ih _ _  h)
        · refine v_iconst X (pc := 814) (v := (0 : Int32)) eL_law_814 (by decide) ?_
          exact absurd (Prod.mk.inj (Option.some.inj h)).1 (by decide)
      have h := it_f h g19
      by_cases g20 : ((kx k x3.toNatClampNeg) &&& (63 : Int32)) = (20 : Int32)
      · have h := it_t h g20
        refine v_tsw X (pc := 33) (tgt := 816) (20 : Int32) g20 eL_law_33 (by decide) (by decide) rfl (by decide) ?_
        refine v_aload_n X (pc := 816) 1 rfl eL_law_816 rfl ?_
        refine v_aload_n X (pc := 817) 0 rfl eL_law_817 rfl ?_
        refine v_iload_n X (pc := 818) 3 rfl eL_law_818 rfl ?_
        refine v_iconst X (pc := 819) (v := (1 : Int32)) eL_law_819 (by decide) ?_
        refine v_iadd X (pc := 820) eL_law_820 ?_
        refine v_sld X (pc := 821) h eL_law_821 (fun h => ?_)
        refine v_aload_n X (pc := 822) 0 rfl eL_law_822 rfl ?_
        refine v_iload_n X (pc := 823) 3 rfl eL_law_823 rfl ?_
        refine v_iconst X (pc := 824) (v := (2 : Int32)) eL_law_824 (by decide) ?_
        refine v_iadd X (pc := 825) eL_law_825 ?_
        refine v_sld X (pc := 826) h eL_law_826 (fun h => ?_)
        refine v_aload_n X (pc := 827) 0 rfl eL_law_827 rfl ?_
        refine v_iload_n X (pc := 828) 3 rfl eL_law_828 rfl ?_
        refine v_iconst X (pc := 829) (v := (3 : Int32)) eL_law_829 (by decide) ?_
        refine v_iadd X (pc := 830) eL_law_830 ?_
        refine v_sld X (pc := 831) h eL_law_831 (fun h => ?_)
        obtain ⟨r41, m41, hc41, h⟩ := bd_some h
        refine v_callV X (pc := 832) [_, _, _] [] ok_V_L_96 (cW_side  hc41) rfl (Nat.le_of_ble_eq_true rfl) ⟨Nat.le_of_ble_eq_true rfl, Nat.le_of_ble_eq_true rfl⟩ ⟨Nat.le_of_ble_eq_true rfl, Nat.le_of_ble_eq_true rfl⟩ (by decide) (by decide) rfl rfl eL_law_832 ?_
        refine v_aload_n X (pc := 835) 2 rfl eL_law_835 rfl ?_
        refine v_aload_n X (pc := 836) 0 rfl eL_law_836 rfl ?_
        refine v_iload_n X (pc := 837) 3 rfl eL_law_837 rfl ?_
        refine v_iconst X (pc := 838) (v := (1 : Int32)) eL_law_838 (by decide) ?_
        refine v_iadd X (pc := 839) eL_law_839 ?_
        refine v_sld X (pc := 840) h eL_law_840 (fun h => ?_)
        refine v_aload_n X (pc := 841) 0 rfl eL_law_841 rfl ?_
        refine v_iload_n X (pc := 842) 3 rfl eL_law_842 rfl ?_
        refine v_iconst X (pc := 843) (v := (2 : Int32)) eL_law_843 (by decide) ?_
        refine v_iadd X (pc := 844) eL_law_844 ?_
        refine v_sld X (pc := 845) h eL_law_845 (fun h => ?_)
        refine v_aload_n X (pc := 846) 0 rfl eL_law_846 rfl ?_
        refine v_iload_n X (pc := 847) 3 rfl eL_law_847 rfl ?_
        refine v_iconst X (pc := 848) (v := (3 : Int32)) eL_law_848 (by decide) ?_
        refine v_iadd X (pc := 849) eL_law_849 ?_
        refine v_sld X (pc := 850) h eL_law_850 (fun h => ?_)
        obtain ⟨r42, m42, hc42, h⟩ := bd_some h
        refine v_callV X (pc := 851) [_, _, _] [_] ok_V_L_99 (cM_side  hc42) rfl (Nat.le_of_ble_eq_true rfl) ⟨Nat.le_of_ble_eq_true rfl, Nat.le_of_ble_eq_true rfl⟩ ⟨Nat.le_of_ble_eq_true rfl, Nat.le_of_ble_eq_true rfl⟩ (by decide) (by decide) rfl rfl eL_law_851 ?_
        refine v_icmp_eq X (pc := 854) (tgt := 1328) h eL_law_854 (by decide) (fun h => ?_) (fun h => ?_)
        · refine v_iinc X (pc := 1328) (v := (x3 + (6 : Int32))) (lv' := [(3, _), (0, _), (1, _), (2, _)]) 3 rfl (by rfl) eL_law_1328 (Nat.le_of_ble_eq_true rfl) rfl ?_
          refine v_goto X (pc := 1331) (tgt := 18) eL_law_1331 (by decide) ?_
          exact v_sub [1, 2, 3, 0] rfl (ih _ _  h)
        · refine v_iconst X (pc := 857) (v := (0 : Int32)) eL_law_857 (by decide) ?_
          exact absurd (Prod.mk.inj (Option.some.inj h)).1 (by decide)
      have h := it_f h g20
      by_cases g21 : ((kx k x3.toNatClampNeg) &&& (63 : Int32)) = (21 : Int32)
      · have h := it_t h g21
        refine v_tsw X (pc := 33) (tgt := 859) (21 : Int32) g21 eL_law_33 (by decide) (by decide) rfl (by decide) ?_
        refine v_aload_n X (pc := 859) 1 rfl eL_law_859 rfl ?_
        refine v_aload_n X (pc := 860) 0 rfl eL_law_860 rfl ?_
        refine v_iload_n X (pc := 861) 3 rfl eL_law_861 rfl ?_
        refine v_iconst X (pc := 862) (v := (1 : Int32)) eL_law_862 (by decide) ?_
        refine v_iadd X (pc := 863) eL_law_863 ?_
        refine v_sld X (pc := 864) h eL_law_864 (fun h => ?_)
        refine v_aload_n X (pc := 865) 0 rfl eL_law_865 rfl ?_
        refine v_iload_n X (pc := 866) 3 rfl eL_law_866 rfl ?_
        refine v_iconst X (pc := 867) (v := (2 : Int32)) eL_law_867 (by decide) ?_
        refine v_iadd X (pc := 868) eL_law_868 ?_
        refine v_sld X (pc := 869) h eL_law_869 (fun h => ?_)
        obtain ⟨r43, m43, hc43, h⟩ := bd_some h
        refine v_callV X (pc := 870) [_, _] [] ok_V_L_100 (cW_lost  hc43) rfl (Nat.le_of_ble_eq_true rfl) ⟨Nat.le_of_ble_eq_true rfl, Nat.le_of_ble_eq_true rfl⟩ ⟨Nat.le_of_ble_eq_true rfl, Nat.le_of_ble_eq_true rfl⟩ (by decide) (by decide) rfl rfl eL_law_870 ?_
        refine v_aload_n X (pc := 873) 2 rfl eL_law_873 rfl ?_
        refine v_aload_n X (pc := 874) 0 rfl eL_law_874 rfl ?_
        refine v_iload_n X (pc := 875) 3 rfl eL_law_875 rfl ?_
        refine v_iconst X (pc := 876) (v := (1 : Int32)) eL_law_876 (by decide) ?_
        refine v_iadd X (pc := 877) eL_law_877 ?_
        refine v_sld X (pc := 878) h eL_law_878 (fun h => ?_)
        refine v_aload_n X (pc := 879) 0 rfl eL_law_879 rfl ?_
        refine v_iload_n X (pc := 880) 3 rfl eL_law_880 rfl ?_
        refine v_iconst X (pc := 881) (v := (2 : Int32)) eL_law_881 (by decide) ?_
        refine v_iadd X (pc := 882) eL_law_882 ?_
        refine v_sld X (pc := 883) h eL_law_883 (fun h => ?_)
        obtain ⟨r44, m44, hc44, h⟩ := bd_some h
        refine v_callV X (pc := 884) [_, _] [_] ok_V_L_103 (cM_lost  hc44) rfl (Nat.le_of_ble_eq_true rfl) ⟨Nat.le_of_ble_eq_true rfl, Nat.le_of_ble_eq_true rfl⟩ ⟨Nat.le_of_ble_eq_true rfl, Nat.le_of_ble_eq_true rfl⟩ (by decide) (by decide) rfl rfl eL_law_884 ?_
        refine v_icmp_eq X (pc := 887) (tgt := 1328) h eL_law_887 (by decide) (fun h => ?_) (fun h => ?_)
        · refine v_iinc X (pc := 1328) (v := (x3 + (6 : Int32))) (lv' := [(3, _), (0, _), (1, _), (2, _)]) 3 rfl (by rfl) eL_law_1328 (Nat.le_of_ble_eq_true rfl) rfl ?_
          refine v_goto X (pc := 1331) (tgt := 18) eL_law_1331 (by decide) ?_
          exact v_sub [1, 2, 3, 0] rfl (ih _ _  h)
        · refine v_iconst X (pc := 890) (v := (0 : Int32)) eL_law_890 (by decide) ?_
          exact absurd (Prod.mk.inj (Option.some.inj h)).1 (by decide)
      have h := it_f h g21
      by_cases g22 : ((kx k x3.toNatClampNeg) &&& (63 : Int32)) = (22 : Int32)
      · have h := it_t h g22
        refine v_tsw X (pc := 33) (tgt := 892) (22 : Int32) g22 eL_law_33 (by decide) (by decide) rfl (by decide) ?_
        refine v_aload_n X (pc := 892) 1 rfl eL_law_892 rfl ?_
        refine v_aload_n X (pc := 893) 0 rfl eL_law_893 rfl ?_
        refine v_iload_n X (pc := 894) 3 rfl eL_law_894 rfl ?_
        refine v_iconst X (pc := 895) (v := (1 : Int32)) eL_law_895 (by decide) ?_
        refine v_iadd X (pc := 896) eL_law_896 ?_
        refine v_sld X (pc := 897) h eL_law_897 (fun h => ?_)
        obtain ⟨r45, m45, hc45, h⟩ := bd_some h
        refine v_callV X (pc := 898) [_] [] ok_V_L_104 (cW_best  hc45) rfl (Nat.le_of_ble_eq_true rfl) ⟨Nat.le_of_ble_eq_true rfl, Nat.le_of_ble_eq_true rfl⟩ ⟨Nat.le_of_ble_eq_true rfl, Nat.le_of_ble_eq_true rfl⟩ (by decide) (by decide) rfl rfl eL_law_898 ?_
        refine v_aload_n X (pc := 901) 2 rfl eL_law_901 rfl ?_
        refine v_aload_n X (pc := 902) 0 rfl eL_law_902 rfl ?_
        refine v_iload_n X (pc := 903) 3 rfl eL_law_903 rfl ?_
        refine v_iconst X (pc := 904) (v := (1 : Int32)) eL_law_904 (by decide) ?_
        refine v_iadd X (pc := 905) eL_law_905 ?_
        refine v_sld X (pc := 906) h eL_law_906 (fun h => ?_)
        obtain ⟨r46, m46, hc46, h⟩ := bd_some h
        refine v_callV X (pc := 907) [_] [_] ok_V_L_107 (cM_best  hc46) rfl (Nat.le_of_ble_eq_true rfl) ⟨Nat.le_of_ble_eq_true rfl, Nat.le_of_ble_eq_true rfl⟩ ⟨Nat.le_of_ble_eq_true rfl, Nat.le_of_ble_eq_true rfl⟩ (by decide) (by decide) rfl rfl eL_law_907 ?_
        refine v_icmp_eq X (pc := 910) (tgt := 1328) h eL_law_910 (by decide) (fun h => ?_) (fun h => ?_)
        · refine v_iinc X (pc := 1328) (v := (x3 + (6 : Int32))) (lv' := [(3, _), (0, _), (1, _), (2, _)]) 3 rfl (by rfl) eL_law_1328 (Nat.le_of_ble_eq_true rfl) rfl ?_
          refine v_goto X (pc := 1331) (tgt := 18) eL_law_1331 (by decide) ?_
          exact v_sub [1, 2, 3, 0] rfl (ih _ _  h)
        · refine v_iconst X (pc := 913) (v := (0 : Int32)) eL_law_913 (by decide) ?_
          exact absurd (Prod.mk.inj (Option.some.inj h)).1 (by decide)
      have h := it_f h g22
      by_cases g23 : ((kx k x3.toNatClampNeg) &&& (63 : Int32)) = (23 : Int32)
      · have h := it_t h g23
        refine v_tsw X (pc := 33) (tgt := 915) (23 : Int32) g23 eL_law_33 (by decide) (by decide) rfl (by decide) ?_
        refine v_aload_n X (pc := 915) 1 rfl eL_law_915 rfl ?_
        refine v_aload_n X (pc := 916) 0 rfl eL_law_916 rfl ?_
        refine v_iload_n X (pc := 917) 3 rfl eL_law_917 rfl ?_
        refine v_iconst X (pc := 918) (v := (1 : Int32)) eL_law_918 (by decide) ?_
        refine v_iadd X (pc := 919) eL_law_919 ?_
        refine v_sld X (pc := 920) h eL_law_920 (fun h => ?_)
        refine v_aload_n X (pc := 921) 0 rfl eL_law_921 rfl ?_
        refine v_iload_n X (pc := 922) 3 rfl eL_law_922 rfl ?_
        refine v_iconst X (pc := 923) (v := (2 : Int32)) eL_law_923 (by decide) ?_
        refine v_iadd X (pc := 924) eL_law_924 ?_
        refine v_sld X (pc := 925) h eL_law_925 (fun h => ?_)
        obtain ⟨r47, m47, hc47, h⟩ := bd_some h
        refine v_callV X (pc := 926) [_, _] [] ok_V_L_108 (cW_feed  hc47) rfl (Nat.le_of_ble_eq_true rfl) ⟨Nat.le_of_ble_eq_true rfl, Nat.le_of_ble_eq_true rfl⟩ ⟨Nat.le_of_ble_eq_true rfl, Nat.le_of_ble_eq_true rfl⟩ (by decide) (by decide) rfl rfl eL_law_926 ?_
        refine v_aload_n X (pc := 929) 2 rfl eL_law_929 rfl ?_
        refine v_aload_n X (pc := 930) 0 rfl eL_law_930 rfl ?_
        refine v_iload_n X (pc := 931) 3 rfl eL_law_931 rfl ?_
        refine v_iconst X (pc := 932) (v := (1 : Int32)) eL_law_932 (by decide) ?_
        refine v_iadd X (pc := 933) eL_law_933 ?_
        refine v_sld X (pc := 934) h eL_law_934 (fun h => ?_)
        refine v_aload_n X (pc := 935) 0 rfl eL_law_935 rfl ?_
        refine v_iload_n X (pc := 936) 3 rfl eL_law_936 rfl ?_
        refine v_iconst X (pc := 937) (v := (2 : Int32)) eL_law_937 (by decide) ?_
        refine v_iadd X (pc := 938) eL_law_938 ?_
        refine v_sld X (pc := 939) h eL_law_939 (fun h => ?_)
        obtain ⟨r48, m48, hc48, h⟩ := bd_some h
        refine v_callV X (pc := 940) [_, _] [_] ok_V_L_111 (cM_feed  hc48) rfl (Nat.le_of_ble_eq_true rfl) ⟨Nat.le_of_ble_eq_true rfl, Nat.le_of_ble_eq_true rfl⟩ ⟨Nat.le_of_ble_eq_true rfl, Nat.le_of_ble_eq_true rfl⟩ (by decide) (by decide) rfl rfl eL_law_940 ?_
        refine v_icmp_eq X (pc := 943) (tgt := 1328) h eL_law_943 (by decide) (fun h => ?_) (fun h => ?_)
        · refine v_iinc X (pc := 1328) (v := (x3 + (6 : Int32))) (lv' := [(3, _), (0, _), (1, _), (2, _)]) 3 rfl (by rfl) eL_law_1328 (Nat.le_of_ble_eq_true rfl) rfl ?_
          refine v_goto X (pc := 1331) (tgt := 18) eL_law_1331 (by decide) ?_
          exact v_sub [1, 2, 3, 0] rfl (ih _ _  h)
        · refine v_iconst X (pc := 946) (v := (0 : Int32)) eL_law_946 (by decide) ?_
          exact absurd (Prod.mk.inj (Option.some.inj h)).1 (by decide)
      have h := it_f h g23
      by_cases g24 : ((kx k x3.toNatClampNeg) &&& (63 : Int32)) = (24 : Int32)
      · have h := it_t h g24
        refine v_tsw X (pc := 33) (tgt := 948) (24 : Int32) g24 eL_law_33 (by decide) (by decide) rfl (by decide) ?_
        refine v_aload_n X (pc := 948) 1 rfl eL_law_948 rfl ?_
        obtain ⟨r49, m49, hc49, h⟩ := bd_some h
        refine v_callV X (pc := 949) [] [] ok_V_L_112 (cW_wipe  hc49) rfl (Nat.le_of_ble_eq_true rfl) ⟨Nat.le_of_ble_eq_true rfl, Nat.le_of_ble_eq_true rfl⟩ ⟨Nat.le_of_ble_eq_true rfl, Nat.le_of_ble_eq_true rfl⟩ (by decide) (by decide) rfl rfl eL_law_949 ?_
        refine v_aload_n X (pc := 952) 2 rfl eL_law_952 rfl ?_
        obtain ⟨r50, m50, hc50, h⟩ := bd_some h
        refine v_callV X (pc := 953) [] [_] ok_V_L_116 (cM_wipe  hc50) rfl (Nat.le_of_ble_eq_true rfl) ⟨Nat.le_of_ble_eq_true rfl, Nat.le_of_ble_eq_true rfl⟩ ⟨Nat.le_of_ble_eq_true rfl, Nat.le_of_ble_eq_true rfl⟩ (by decide) (by decide) rfl rfl eL_law_953 ?_
        refine v_icmp_eq X (pc := 956) (tgt := 1328) h eL_law_956 (by decide) (fun h => ?_) (fun h => ?_)
        · refine v_iinc X (pc := 1328) (v := (x3 + (6 : Int32))) (lv' := [(3, _), (0, _), (1, _), (2, _)]) 3 rfl (by rfl) eL_law_1328 (Nat.le_of_ble_eq_true rfl) rfl ?_
          refine v_goto X (pc := 1331) (tgt := 18) eL_law_1331 (by decide) ?_
          exact v_sub [1, 2, 3, 0] rfl (ih _ _  h)
        · refine v_iconst X (pc := 959) (v := (0 : Int32)) eL_law_959 (by decide) ?_
          exact absurd (Prod.mk.inj (Option.some.inj h)).1 (by decide)
      have h := it_f h g24
      by_cases g25 : ((kx k x3.toNatClampNeg) &&& (63 : Int32)) = (25 : Int32)
      · have h := it_t h g25
        refine v_tsw X (pc := 33) (tgt := 961) (25 : Int32) g25 eL_law_33 (by decide) (by decide) rfl (by decide) ?_
        refine v_aload_n X (pc := 961) 1 rfl eL_law_961 rfl ?_
        obtain ⟨r51, m51, hc51, h⟩ := bd_some h
        refine v_callV X (pc := 962) [] [] ok_V_L_117 (cW_palace  hc51) rfl (Nat.le_of_ble_eq_true rfl) ⟨Nat.le_of_ble_eq_true rfl, Nat.le_of_ble_eq_true rfl⟩ ⟨Nat.le_of_ble_eq_true rfl, Nat.le_of_ble_eq_true rfl⟩ (by decide) (by decide) rfl rfl eL_law_962 ?_
        refine v_aload_n X (pc := 965) 2 rfl eL_law_965 rfl ?_
        obtain ⟨r52, m52, hc52, h⟩ := bd_some h
        refine v_callV X (pc := 966) [] [_] ok_V_L_120 (cM_palace  hc52) rfl (Nat.le_of_ble_eq_true rfl) ⟨Nat.le_of_ble_eq_true rfl, Nat.le_of_ble_eq_true rfl⟩ ⟨Nat.le_of_ble_eq_true rfl, Nat.le_of_ble_eq_true rfl⟩ (by decide) (by decide) rfl rfl eL_law_966 ?_
        refine v_icmp_eq X (pc := 969) (tgt := 1328) h eL_law_969 (by decide) (fun h => ?_) (fun h => ?_)
        · refine v_iinc X (pc := 1328) (v := (x3 + (6 : Int32))) (lv' := [(3, _), (0, _), (1, _), (2, _)]) 3 rfl (by rfl) eL_law_1328 (Nat.le_of_ble_eq_true rfl) rfl ?_
          refine v_goto X (pc := 1331) (tgt := 18) eL_law_1331 (by decide) ?_
          exact v_sub [1, 2, 3, 0] rfl (ih _ _  h)
        · refine v_iconst X (pc := 972) (v := (0 : Int32)) eL_law_972 (by decide) ?_
          exact absurd (Prod.mk.inj (Option.some.inj h)).1 (by decide)
      have h := it_f h g25
      by_cases g26 : ((kx k x3.toNatClampNeg) &&& (63 : Int32)) = (26 : Int32)
      · have h := it_t h g26
        refine v_tsw X (pc := 33) (tgt := 974) (26 : Int32) g26 eL_law_33 (by decide) (by decide) rfl (by decide) ?_
        refine v_aload_n X (pc := 974) 1 rfl eL_law_974 rfl ?_
        refine v_aload_n X (pc := 975) 0 rfl eL_law_975 rfl ?_
        refine v_iload_n X (pc := 976) 3 rfl eL_law_976 rfl ?_
        refine v_iconst X (pc := 977) (v := (1 : Int32)) eL_law_977 (by decide) ?_
        refine v_iadd X (pc := 978) eL_law_978 ?_
        refine v_sld X (pc := 979) h eL_law_979 (fun h => ?_)
        refine v_aload_n X (pc := 980) 0 rfl eL_law_980 rfl ?_
        refine v_iload_n X (pc := 981) 3 rfl eL_law_981 rfl ?_
        refine v_iconst X (pc := 982) (v := (2 : Int32)) eL_law_982 (by decide) ?_
        refine v_iadd X (pc := 983) eL_law_983 ?_
        refine v_sld X (pc := 984) h eL_law_984 (fun h => ?_)
        refine v_aload_n X (pc := 985) 0 rfl eL_law_985 rfl ?_
        refine v_iload_n X (pc := 986) 3 rfl eL_law_986 rfl ?_
        refine v_iconst X (pc := 987) (v := (3 : Int32)) eL_law_987 (by decide) ?_
        refine v_iadd X (pc := 988) eL_law_988 ?_
        refine v_sld X (pc := 989) h eL_law_989 (fun h => ?_)
        obtain ⟨r53, m53, hc53, h⟩ := bd_some h
        refine v_callV X (pc := 990) [_, _, _] [] ok_V_L_121 (cW_sheet  hc53) rfl (Nat.le_of_ble_eq_true rfl) ⟨Nat.le_of_ble_eq_true rfl, Nat.le_of_ble_eq_true rfl⟩ ⟨Nat.le_of_ble_eq_true rfl, Nat.le_of_ble_eq_true rfl⟩ (by decide) (by decide) rfl rfl eL_law_990 ?_
        refine v_aload_n X (pc := 993) 2 rfl eL_law_993 rfl ?_
        refine v_aload_n X (pc := 994) 0 rfl eL_law_994 rfl ?_
        refine v_iload_n X (pc := 995) 3 rfl eL_law_995 rfl ?_
        refine v_iconst X (pc := 996) (v := (1 : Int32)) eL_law_996 (by decide) ?_
        refine v_iadd X (pc := 997) eL_law_997 ?_
        refine v_sld X (pc := 998) h eL_law_998 (fun h => ?_)
        refine v_aload_n X (pc := 999) 0 rfl eL_law_999 rfl ?_
        refine v_iload_n X (pc := 1000) 3 rfl eL_law_1000 rfl ?_
        refine v_iconst X (pc := 1001) (v := (2 : Int32)) eL_law_1001 (by decide) ?_
        refine v_iadd X (pc := 1002) eL_law_1002 ?_
        refine v_sld X (pc := 1003) h eL_law_1003 (fun h => ?_)
        refine v_aload_n X (pc := 1004) 0 rfl eL_law_1004 rfl ?_
        refine v_iload_n X (pc := 1005) 3 rfl eL_law_1005 rfl ?_
        refine v_iconst X (pc := 1006) (v := (3 : Int32)) eL_law_1006 (by decide) ?_
        refine v_iadd X (pc := 1007) eL_law_1007 ?_
        refine v_sld X (pc := 1008) h eL_law_1008 (fun h => ?_)
        obtain ⟨r54, m54, hc54, h⟩ := bd_some h
        refine v_callV X (pc := 1009) [_, _, _] [_] ok_V_L_124 (cM_sheet  hc54) rfl (Nat.le_of_ble_eq_true rfl) ⟨Nat.le_of_ble_eq_true rfl, Nat.le_of_ble_eq_true rfl⟩ ⟨Nat.le_of_ble_eq_true rfl, Nat.le_of_ble_eq_true rfl⟩ (by decide) (by decide) rfl rfl eL_law_1009 ?_
        refine v_icmp_eq X (pc := 1012) (tgt := 1328) h eL_law_1012 (by decide) (fun h => ?_) (fun h => ?_)
        · refine v_iinc X (pc := 1328) (v := (x3 + (6 : Int32))) (lv' := [(3, _), (0, _), (1, _), (2, _)]) 3 rfl (by rfl) eL_law_1328 (Nat.le_of_ble_eq_true rfl) rfl ?_
          refine v_goto X (pc := 1331) (tgt := 18) eL_law_1331 (by decide) ?_
          exact v_sub [1, 2, 3, 0] rfl (ih _ _  h)
        · refine v_iconst X (pc := 1015) (v := (0 : Int32)) eL_law_1015 (by decide) ?_
          exact absurd (Prod.mk.inj (Option.some.inj h)).1 (by decide)
      have h := it_f h g26
      by_cases g27 : ((kx k x3.toNatClampNeg) &&& (63 : Int32)) = (27 : Int32)
      · have h := it_t h g27
        refine v_tsw X (pc := 33) (tgt := 1017) (27 : Int32) g27 eL_law_33 (by decide) (by decide) rfl (by decide) ?_
        refine v_aload_n X (pc := 1017) 1 rfl eL_law_1017 rfl ?_
        refine v_aload_n X (pc := 1018) 0 rfl eL_law_1018 rfl ?_
        refine v_iload_n X (pc := 1019) 3 rfl eL_law_1019 rfl ?_
        refine v_iconst X (pc := 1020) (v := (1 : Int32)) eL_law_1020 (by decide) ?_
        refine v_iadd X (pc := 1021) eL_law_1021 ?_
        refine v_sld X (pc := 1022) h eL_law_1022 (fun h => ?_)
        refine v_aload_n X (pc := 1023) 0 rfl eL_law_1023 rfl ?_
        refine v_iload_n X (pc := 1024) 3 rfl eL_law_1024 rfl ?_
        refine v_iconst X (pc := 1025) (v := (2 : Int32)) eL_law_1025 (by decide) ?_
        refine v_iadd X (pc := 1026) eL_law_1026 ?_
        refine v_sld X (pc := 1027) h eL_law_1027 (fun h => ?_)
        refine v_aload_n X (pc := 1028) 0 rfl eL_law_1028 rfl ?_
        refine v_iload_n X (pc := 1029) 3 rfl eL_law_1029 rfl ?_
        refine v_iconst X (pc := 1030) (v := (3 : Int32)) eL_law_1030 (by decide) ?_
        refine v_iadd X (pc := 1031) eL_law_1031 ?_
        refine v_sld X (pc := 1032) h eL_law_1032 (fun h => ?_)
        refine v_i2l X (pc := 1033) eL_law_1033 ?_
        refine v_bipush X (pc := 1034) (v := (32 : Int32)) eL_law_1034 (by decide) ?_
        refine v_lshl X (pc := 1036) eL_law_1036 ?_
        refine v_aload_n X (pc := 1037) 0 rfl eL_law_1037 rfl ?_
        refine v_iload_n X (pc := 1038) 3 rfl eL_law_1038 rfl ?_
        refine v_iconst X (pc := 1039) (v := (4 : Int32)) eL_law_1039 (by decide) ?_
        refine v_iadd X (pc := 1040) eL_law_1040 ?_
        refine v_sld X (pc := 1041) h eL_law_1041 (fun h => ?_)
        refine v_i2l X (pc := 1042) eL_law_1042 ?_
        refine v_ldc2 X (pc := 1043) qw_1044 eL_law_1043 ?_
        refine v_land X (pc := 1046) eL_law_1046 ?_
        refine v_lor X (pc := 1047) eL_law_1047 ?_
        obtain ⟨r55, m55, hc55, h⟩ := bd_some h
        refine v_callV X (pc := 1048) [_, _, _] [] ok_V_L_127 (cW_write  hc55) rfl (Nat.le_of_ble_eq_true rfl) ⟨Nat.le_of_ble_eq_true rfl, Nat.le_of_ble_eq_true rfl⟩ ⟨Nat.le_of_ble_eq_true rfl, Nat.le_of_ble_eq_true rfl⟩ (by decide) (by decide) rfl rfl eL_law_1048 ?_
        refine v_aload_n X (pc := 1051) 2 rfl eL_law_1051 rfl ?_
        refine v_aload_n X (pc := 1052) 0 rfl eL_law_1052 rfl ?_
        refine v_iload_n X (pc := 1053) 3 rfl eL_law_1053 rfl ?_
        refine v_iconst X (pc := 1054) (v := (1 : Int32)) eL_law_1054 (by decide) ?_
        refine v_iadd X (pc := 1055) eL_law_1055 ?_
        refine v_sld X (pc := 1056) h eL_law_1056 (fun h => ?_)
        refine v_aload_n X (pc := 1057) 0 rfl eL_law_1057 rfl ?_
        refine v_iload_n X (pc := 1058) 3 rfl eL_law_1058 rfl ?_
        refine v_iconst X (pc := 1059) (v := (2 : Int32)) eL_law_1059 (by decide) ?_
        refine v_iadd X (pc := 1060) eL_law_1060 ?_
        refine v_sld X (pc := 1061) h eL_law_1061 (fun h => ?_)
        refine v_aload_n X (pc := 1062) 0 rfl eL_law_1062 rfl ?_
        refine v_iload_n X (pc := 1063) 3 rfl eL_law_1063 rfl ?_
        refine v_iconst X (pc := 1064) (v := (3 : Int32)) eL_law_1064 (by decide) ?_
        refine v_iadd X (pc := 1065) eL_law_1065 ?_
        refine v_sld X (pc := 1066) h eL_law_1066 (fun h => ?_)
        refine v_i2l X (pc := 1067) eL_law_1067 ?_
        refine v_bipush X (pc := 1068) (v := (32 : Int32)) eL_law_1068 (by decide) ?_
        refine v_lshl X (pc := 1070) eL_law_1070 ?_
        refine v_aload_n X (pc := 1071) 0 rfl eL_law_1071 rfl ?_
        refine v_iload_n X (pc := 1072) 3 rfl eL_law_1072 rfl ?_
        refine v_iconst X (pc := 1073) (v := (4 : Int32)) eL_law_1073 (by decide) ?_
        refine v_iadd X (pc := 1074) eL_law_1074 ?_
        refine v_sld X (pc := 1075) h eL_law_1075 (fun h => ?_)
        refine v_i2l X (pc := 1076) eL_law_1076 ?_
        refine v_ldc2 X (pc := 1077) qw_1044 eL_law_1077 ?_
        refine v_land X (pc := 1080) eL_law_1080 ?_
        refine v_lor X (pc := 1081) eL_law_1081 ?_
        obtain ⟨r56, m56, hc56, h⟩ := bd_some h
        refine v_callV X (pc := 1082) [_, _, _] [_] ok_V_L_131 (cM_write  hc56) rfl (Nat.le_of_ble_eq_true rfl) ⟨Nat.le_of_ble_eq_true rfl, Nat.le_of_ble_eq_true rfl⟩ ⟨Nat.le_of_ble_eq_true rfl, Nat.le_of_ble_eq_true rfl⟩ (by decide) (by decide) rfl rfl eL_law_1082 ?_
        refine v_lcmp X (pc := 1085) eL_law_1085 ?_
        refine v_if_eq X (pc := 1086) (tgt := 1328) h eL_law_1086 (by decide) (fun h => ?_) (fun h => ?_)
        · refine v_iinc X (pc := 1328) (v := (x3 + (6 : Int32))) (lv' := [(3, _), (0, _), (1, _), (2, _)]) 3 rfl (by rfl) eL_law_1328 (Nat.le_of_ble_eq_true rfl) rfl ?_
          refine v_goto X (pc := 1331) (tgt := 18) eL_law_1331 (by decide) ?_
          exact v_sub [1, 2, 3, 0] rfl (ih _ _  h)
        · refine v_iconst X (pc := 1089) (v := (0 : Int32)) eL_law_1089 (by decide) ?_
          exact absurd (Prod.mk.inj (Option.some.inj h)).1 (by decide)
      have h := it_f h g27
      by_cases g28 : ((kx k x3.toNatClampNeg) &&& (63 : Int32)) = (28 : Int32)
      · have h := it_t h g28
        refine v_tsw X (pc := 33) (tgt := 1091) (28 : Int32) g28 eL_law_33 (by decide) (by decide) rfl (by decide) ?_
        refine v_aload_n X (pc := 1091) 1 rfl eL_law_1091 rfl ?_
        refine v_aload_n X (pc := 1092) 0 rfl eL_law_1092 rfl ?_
        refine v_iload_n X (pc := 1093) 3 rfl eL_law_1093 rfl ?_
        refine v_iconst X (pc := 1094) (v := (1 : Int32)) eL_law_1094 (by decide) ?_
        refine v_iadd X (pc := 1095) eL_law_1095 ?_
        refine v_sld X (pc := 1096) h eL_law_1096 (fun h => ?_)
        refine v_aload_n X (pc := 1097) 0 rfl eL_law_1097 rfl ?_
        refine v_iload_n X (pc := 1098) 3 rfl eL_law_1098 rfl ?_
        refine v_iconst X (pc := 1099) (v := (2 : Int32)) eL_law_1099 (by decide) ?_
        refine v_iadd X (pc := 1100) eL_law_1100 ?_
        refine v_sld X (pc := 1101) h eL_law_1101 (fun h => ?_)
        refine v_aload_n X (pc := 1102) 0 rfl eL_law_1102 rfl ?_
        refine v_iload_n X (pc := 1103) 3 rfl eL_law_1103 rfl ?_
        refine v_iconst X (pc := 1104) (v := (3 : Int32)) eL_law_1104 (by decide) ?_
        refine v_iadd X (pc := 1105) eL_law_1105 ?_
        refine v_sld X (pc := 1106) h eL_law_1106 (fun h => ?_)
        refine v_aload_n X (pc := 1107) 0 rfl eL_law_1107 rfl ?_
        refine v_iload_n X (pc := 1108) 3 rfl eL_law_1108 rfl ?_
        refine v_iconst X (pc := 1109) (v := (4 : Int32)) eL_law_1109 (by decide) ?_
        refine v_iadd X (pc := 1110) eL_law_1110 ?_
        refine v_sld X (pc := 1111) h eL_law_1111 (fun h => ?_)
        refine v_aload_n X (pc := 1112) 0 rfl eL_law_1112 rfl ?_
        refine v_iload_n X (pc := 1113) 3 rfl eL_law_1113 rfl ?_
        refine v_iconst X (pc := 1114) (v := (5 : Int32)) eL_law_1114 (by decide) ?_
        refine v_iadd X (pc := 1115) eL_law_1115 ?_
        refine v_sld X (pc := 1116) h eL_law_1116 (fun h => ?_)
        obtain ⟨r57, m57, hc57, h⟩ := bd_some h
        refine v_callV X (pc := 1117) [_, _, _, _, _] [] ok_V_L_132 (cW_copy  hc57) rfl (Nat.le_of_ble_eq_true rfl) ⟨Nat.le_of_ble_eq_true rfl, Nat.le_of_ble_eq_true rfl⟩ ⟨Nat.le_of_ble_eq_true rfl, Nat.le_of_ble_eq_true rfl⟩ (by decide) (by decide) rfl rfl eL_law_1117 ?_
        refine v_aload_n X (pc := 1120) 2 rfl eL_law_1120 rfl ?_
        refine v_aload_n X (pc := 1121) 0 rfl eL_law_1121 rfl ?_
        refine v_iload_n X (pc := 1122) 3 rfl eL_law_1122 rfl ?_
        refine v_iconst X (pc := 1123) (v := (1 : Int32)) eL_law_1123 (by decide) ?_
        refine v_iadd X (pc := 1124) eL_law_1124 ?_
        refine v_sld X (pc := 1125) h eL_law_1125 (fun h => ?_)
        refine v_aload_n X (pc := 1126) 0 rfl eL_law_1126 rfl ?_
        refine v_iload_n X (pc := 1127) 3 rfl eL_law_1127 rfl ?_
        refine v_iconst X (pc := 1128) (v := (2 : Int32)) eL_law_1128 (by decide) ?_
        refine v_iadd X (pc := 1129) eL_law_1129 ?_
        refine v_sld X (pc := 1130) h eL_law_1130 (fun h => ?_)
        refine v_aload_n X (pc := 1131) 0 rfl eL_law_1131 rfl ?_
        refine v_iload_n X (pc := 1132) 3 rfl eL_law_1132 rfl ?_
        refine v_iconst X (pc := 1133) (v := (3 : Int32)) eL_law_1133 (by decide) ?_
        refine v_iadd X (pc := 1134) eL_law_1134 ?_
        refine v_sld X (pc := 1135) h eL_law_1135 (fun h => ?_)
        refine v_aload_n X (pc := 1136) 0 rfl eL_law_1136 rfl ?_
        refine v_iload_n X (pc := 1137) 3 rfl eL_law_1137 rfl ?_
        refine v_iconst X (pc := 1138) (v := (4 : Int32)) eL_law_1138 (by decide) ?_
        refine v_iadd X (pc := 1139) eL_law_1139 ?_
        refine v_sld X (pc := 1140) h eL_law_1140 (fun h => ?_)
        refine v_aload_n X (pc := 1141) 0 rfl eL_law_1141 rfl ?_
        refine v_iload_n X (pc := 1142) 3 rfl eL_law_1142 rfl ?_
        refine v_iconst X (pc := 1143) (v := (5 : Int32)) eL_law_1143 (by decide) ?_
        refine v_iadd X (pc := 1144) eL_law_1144 ?_
        refine v_sld X (pc := 1145) h eL_law_1145 (fun h => ?_)
        obtain ⟨r58, m58, hc58, h⟩ := bd_some h
        refine v_callV X (pc := 1146) [_, _, _, _, _] [_] ok_V_L_136 (cM_copy  hc58) rfl (Nat.le_of_ble_eq_true rfl) ⟨Nat.le_of_ble_eq_true rfl, Nat.le_of_ble_eq_true rfl⟩ ⟨Nat.le_of_ble_eq_true rfl, Nat.le_of_ble_eq_true rfl⟩ (by decide) (by decide) rfl rfl eL_law_1146 ?_
        refine v_icmp_eq X (pc := 1149) (tgt := 1328) h eL_law_1149 (by decide) (fun h => ?_) (fun h => ?_)
        · refine v_iinc X (pc := 1328) (v := (x3 + (6 : Int32))) (lv' := [(3, _), (0, _), (1, _), (2, _)]) 3 rfl (by rfl) eL_law_1328 (Nat.le_of_ble_eq_true rfl) rfl ?_
          refine v_goto X (pc := 1331) (tgt := 18) eL_law_1331 (by decide) ?_
          exact v_sub [1, 2, 3, 0] rfl (ih _ _  h)
        · refine v_iconst X (pc := 1152) (v := (0 : Int32)) eL_law_1152 (by decide) ?_
          exact absurd (Prod.mk.inj (Option.some.inj h)).1 (by decide)
      have h := it_f h g28
      by_cases g29 : ((kx k x3.toNatClampNeg) &&& (63 : Int32)) = (29 : Int32)
      · have h := it_t h g29
        refine v_tsw X (pc := 33) (tgt := 1154) (29 : Int32) g29 eL_law_33 (by decide) (by decide) rfl (by decide) ?_
        refine v_aload_n X (pc := 1154) 1 rfl eL_law_1154 rfl ?_
        refine v_aload_n X (pc := 1155) 0 rfl eL_law_1155 rfl ?_
        refine v_iload_n X (pc := 1156) 3 rfl eL_law_1156 rfl ?_
        refine v_iconst X (pc := 1157) (v := (1 : Int32)) eL_law_1157 (by decide) ?_
        refine v_iadd X (pc := 1158) eL_law_1158 ?_
        refine v_sld X (pc := 1159) h eL_law_1159 (fun h => ?_)
        obtain ⟨r59, m59, hc59, h⟩ := bd_some h
        refine v_callV X (pc := 1160) [_] [] ok_V_L_137 (cW_lays  hc59) rfl (Nat.le_of_ble_eq_true rfl) ⟨Nat.le_of_ble_eq_true rfl, Nat.le_of_ble_eq_true rfl⟩ ⟨Nat.le_of_ble_eq_true rfl, Nat.le_of_ble_eq_true rfl⟩ (by decide) (by decide) rfl rfl eL_law_1160 ?_
        refine v_aload_n X (pc := 1163) 2 rfl eL_law_1163 rfl ?_
        refine v_aload_n X (pc := 1164) 0 rfl eL_law_1164 rfl ?_
        refine v_iload_n X (pc := 1165) 3 rfl eL_law_1165 rfl ?_
        refine v_iconst X (pc := 1166) (v := (1 : Int32)) eL_law_1166 (by decide) ?_
        refine v_iadd X (pc := 1167) eL_law_1167 ?_
        refine v_sld X (pc := 1168) h eL_law_1168 (fun h => ?_)
        obtain ⟨r60, m60, hc60, h⟩ := bd_some h
        refine v_callV X (pc := 1169) [_] [_] ok_V_L_140 (cM_lays  hc60) rfl (Nat.le_of_ble_eq_true rfl) ⟨Nat.le_of_ble_eq_true rfl, Nat.le_of_ble_eq_true rfl⟩ ⟨Nat.le_of_ble_eq_true rfl, Nat.le_of_ble_eq_true rfl⟩ (by decide) (by decide) rfl rfl eL_law_1169 ?_
        refine v_icmp_eq X (pc := 1172) (tgt := 1328) h eL_law_1172 (by decide) (fun h => ?_) (fun h => ?_)
        · refine v_iinc X (pc := 1328) (v := (x3 + (6 : Int32))) (lv' := [(3, _), (0, _), (1, _), (2, _)]) 3 rfl (by rfl) eL_law_1328 (Nat.le_of_ble_eq_true rfl) rfl ?_
          refine v_goto X (pc := 1331) (tgt := 18) eL_law_1331 (by decide) ?_
          exact v_sub [1, 2, 3, 0] rfl (ih _ _  h)
        · refine v_iconst X (pc := 1175) (v := (0 : Int32)) eL_law_1175 (by decide) ?_
          exact absurd (Prod.mk.inj (Option.some.inj h)).1 (by decide)
      have h := it_f h g29
      by_cases g30 : ((kx k x3.toNatClampNeg) &&& (63 : Int32)) = (30 : Int32)
      · have h := it_t h g30
        refine v_tsw X (pc := 33) (tgt := 1177) (30 : Int32) g30 eL_law_33 (by decide) (by decide) rfl (by decide) ?_
        refine v_aload_n X (pc := 1177) 1 rfl eL_law_1177 rfl ?_
        refine v_aload_n X (pc := 1178) 0 rfl eL_law_1178 rfl ?_
        refine v_iload_n X (pc := 1179) 3 rfl eL_law_1179 rfl ?_
        refine v_iconst X (pc := 1180) (v := (1 : Int32)) eL_law_1180 (by decide) ?_
        refine v_iadd X (pc := 1181) eL_law_1181 ?_
        refine v_sld X (pc := 1182) h eL_law_1182 (fun h => ?_)
        refine v_aload_n X (pc := 1183) 0 rfl eL_law_1183 rfl ?_
        refine v_iload_n X (pc := 1184) 3 rfl eL_law_1184 rfl ?_
        refine v_iconst X (pc := 1185) (v := (2 : Int32)) eL_law_1185 (by decide) ?_
        refine v_iadd X (pc := 1186) eL_law_1186 ?_
        refine v_sld X (pc := 1187) h eL_law_1187 (fun h => ?_)
        obtain ⟨r61, m61, hc61, h⟩ := bd_some h
        refine v_callV X (pc := 1188) [_, _] [] ok_V_L_141 (cW_book  hc61) rfl (Nat.le_of_ble_eq_true rfl) ⟨Nat.le_of_ble_eq_true rfl, Nat.le_of_ble_eq_true rfl⟩ ⟨Nat.le_of_ble_eq_true rfl, Nat.le_of_ble_eq_true rfl⟩ (by decide) (by decide) rfl rfl eL_law_1188 ?_
        refine v_aload_n X (pc := 1191) 2 rfl eL_law_1191 rfl ?_
        refine v_aload_n X (pc := 1192) 0 rfl eL_law_1192 rfl ?_
        refine v_iload_n X (pc := 1193) 3 rfl eL_law_1193 rfl ?_
        refine v_iconst X (pc := 1194) (v := (1 : Int32)) eL_law_1194 (by decide) ?_
        refine v_iadd X (pc := 1195) eL_law_1195 ?_
        refine v_sld X (pc := 1196) h eL_law_1196 (fun h => ?_)
        refine v_aload_n X (pc := 1197) 0 rfl eL_law_1197 rfl ?_
        refine v_iload_n X (pc := 1198) 3 rfl eL_law_1198 rfl ?_
        refine v_iconst X (pc := 1199) (v := (2 : Int32)) eL_law_1199 (by decide) ?_
        refine v_iadd X (pc := 1200) eL_law_1200 ?_
        refine v_sld X (pc := 1201) h eL_law_1201 (fun h => ?_)
        obtain ⟨r62, m62, hc62, h⟩ := bd_some h
        refine v_callV X (pc := 1202) [_, _] [_] ok_V_L_144 (cM_book  hc62) rfl (Nat.le_of_ble_eq_true rfl) ⟨Nat.le_of_ble_eq_true rfl, Nat.le_of_ble_eq_true rfl⟩ ⟨Nat.le_of_ble_eq_true rfl, Nat.le_of_ble_eq_true rfl⟩ (by decide) (by decide) rfl rfl eL_law_1202 ?_
        refine v_icmp_eq X (pc := 1205) (tgt := 1328) h eL_law_1205 (by decide) (fun h => ?_) (fun h => ?_)
        · refine v_iinc X (pc := 1328) (v := (x3 + (6 : Int32))) (lv' := [(3, _), (0, _), (1, _), (2, _)]) 3 rfl (by rfl) eL_law_1328 (Nat.le_of_ble_eq_true rfl) rfl ?_
          refine v_goto X (pc := 1331) (tgt := 18) eL_law_1331 (by decide) ?_
          exact v_sub [1, 2, 3, 0] rfl (ih _ _  h)
        · refine v_iconst X (pc := 1208) (v := (0 : Int32)) eL_law_1208 (by decide) ?_
          exact absurd (Prod.mk.inj (Option.some.inj h)).1 (by decide)
      have h := it_f h g30
      by_cases g31 : ((kx k x3.toNatClampNeg) &&& (63 : Int32)) = (31 : Int32)
      · have h := it_t h g31
        refine v_tsw X (pc := 33) (tgt := 1210) (31 : Int32) g31 eL_law_33 (by decide) (by decide) rfl (by decide) ?_
        refine v_aload_n X (pc := 1210) 1 rfl eL_law_1210 rfl ?_
        refine v_aload_n X (pc := 1211) 0 rfl eL_law_1211 rfl ?_
        refine v_iload_n X (pc := 1212) 3 rfl eL_law_1212 rfl ?_
        refine v_iconst X (pc := 1213) (v := (1 : Int32)) eL_law_1213 (by decide) ?_
        refine v_iadd X (pc := 1214) eL_law_1214 ?_
        refine v_sld X (pc := 1215) h eL_law_1215 (fun h => ?_)
        refine v_aload_n X (pc := 1216) 0 rfl eL_law_1216 rfl ?_
        refine v_iload_n X (pc := 1217) 3 rfl eL_law_1217 rfl ?_
        refine v_iconst X (pc := 1218) (v := (2 : Int32)) eL_law_1218 (by decide) ?_
        refine v_iadd X (pc := 1219) eL_law_1219 ?_
        refine v_sld X (pc := 1220) h eL_law_1220 (fun h => ?_)
        obtain ⟨r63, m63, hc63, h⟩ := bd_some h
        refine v_callV X (pc := 1221) [_, _] [] ok_V_L_145 (cW_read  hc63) rfl (Nat.le_of_ble_eq_true rfl) ⟨Nat.le_of_ble_eq_true rfl, Nat.le_of_ble_eq_true rfl⟩ ⟨Nat.le_of_ble_eq_true rfl, Nat.le_of_ble_eq_true rfl⟩ (by decide) (by decide) rfl rfl eL_law_1221 ?_
        refine v_aload_n X (pc := 1224) 2 rfl eL_law_1224 rfl ?_
        refine v_aload_n X (pc := 1225) 0 rfl eL_law_1225 rfl ?_
        refine v_iload_n X (pc := 1226) 3 rfl eL_law_1226 rfl ?_
        refine v_iconst X (pc := 1227) (v := (1 : Int32)) eL_law_1227 (by decide) ?_
        refine v_iadd X (pc := 1228) eL_law_1228 ?_
        refine v_sld X (pc := 1229) h eL_law_1229 (fun h => ?_)
        refine v_aload_n X (pc := 1230) 0 rfl eL_law_1230 rfl ?_
        refine v_iload_n X (pc := 1231) 3 rfl eL_law_1231 rfl ?_
        refine v_iconst X (pc := 1232) (v := (2 : Int32)) eL_law_1232 (by decide) ?_
        refine v_iadd X (pc := 1233) eL_law_1233 ?_
        refine v_sld X (pc := 1234) h eL_law_1234 (fun h => ?_)
        obtain ⟨r64, m64, hc64, h⟩ := bd_some h
        refine v_callV X (pc := 1235) [_, _] [_] ok_V_L_148 (cM_read  hc64) rfl (Nat.le_of_ble_eq_true rfl) ⟨Nat.le_of_ble_eq_true rfl, Nat.le_of_ble_eq_true rfl⟩ ⟨Nat.le_of_ble_eq_true rfl, Nat.le_of_ble_eq_true rfl⟩ (by decide) (by decide) rfl rfl eL_law_1235 ?_
        refine v_icmp_eq X (pc := 1238) (tgt := 1328) h eL_law_1238 (by decide) (fun h => ?_) (fun h => ?_)
        · refine v_iinc X (pc := 1328) (v := (x3 + (6 : Int32))) (lv' := [(3, _), (0, _), (1, _), (2, _)]) 3 rfl (by rfl) eL_law_1328 (Nat.le_of_ble_eq_true rfl) rfl ?_
          refine v_goto X (pc := 1331) (tgt := 18) eL_law_1331 (by decide) ?_
          exact v_sub [1, 2, 3, 0] rfl (ih _ _  h)
        · refine v_iconst X (pc := 1241) (v := (0 : Int32)) eL_law_1241 (by decide) ?_
          exact absurd (Prod.mk.inj (Option.some.inj h)).1 (by decide)
      have h := it_f h g31
      by_cases g32 : ((kx k x3.toNatClampNeg) &&& (63 : Int32)) = (32 : Int32)
      · have h := it_t h g32
        refine v_tsw X (pc := 33) (tgt := 1243) (32 : Int32) g32 eL_law_33 (by decide) (by decide) rfl (by decide) ?_
        refine v_aload_n X (pc := 1243) 1 rfl eL_law_1243 rfl ?_
        obtain ⟨r65, m65, hc65, h⟩ := bd_some h
        refine v_callV X (pc := 1244) [] [] ok_V_L_149 (cW_image  hc65) rfl (Nat.le_of_ble_eq_true rfl) ⟨Nat.le_of_ble_eq_true rfl, Nat.le_of_ble_eq_true rfl⟩ ⟨Nat.le_of_ble_eq_true rfl, Nat.le_of_ble_eq_true rfl⟩ (by decide) (by decide) rfl rfl eL_law_1244 ?_
        refine v_aload_n X (pc := 1247) 2 rfl eL_law_1247 rfl ?_
        obtain ⟨r66, m66, hc66, h⟩ := bd_some h
        refine v_callV X (pc := 1248) [] [_] ok_V_L_152 (cM_image  hc66) rfl (Nat.le_of_ble_eq_true rfl) ⟨Nat.le_of_ble_eq_true rfl, Nat.le_of_ble_eq_true rfl⟩ ⟨Nat.le_of_ble_eq_true rfl, Nat.le_of_ble_eq_true rfl⟩ (by decide) (by decide) rfl rfl eL_law_1248 ?_
        refine v_icmp_eq X (pc := 1251) (tgt := 1328) h eL_law_1251 (by decide) (fun h => ?_) (fun h => ?_)
        · refine v_iinc X (pc := 1328) (v := (x3 + (6 : Int32))) (lv' := [(3, _), (0, _), (1, _), (2, _)]) 3 rfl (by rfl) eL_law_1328 (Nat.le_of_ble_eq_true rfl) rfl ?_
          refine v_goto X (pc := 1331) (tgt := 18) eL_law_1331 (by decide) ?_
          exact v_sub [1, 2, 3, 0] rfl (ih _ _  h)
        · refine v_iconst X (pc := 1254) (v := (0 : Int32)) eL_law_1254 (by decide) ?_
          exact absurd (Prod.mk.inj (Option.some.inj h)).1 (by decide)
      have h := it_f h g32
      by_cases g33 : ((kx k x3.toNatClampNeg) &&& (63 : Int32)) = (33 : Int32)
      · have h := it_t h g33
        refine v_tsw X (pc := 33) (tgt := 1256) (33 : Int32) g33 eL_law_33 (by decide) (by decide) rfl (by decide) ?_
        refine v_aload_n X (pc := 1256) 1 rfl eL_law_1256 rfl ?_
        obtain ⟨r67, m67, hc67, h⟩ := bd_some h
        refine v_callV X (pc := 1257) [] [] ok_V_L_153 (cW_undo  hc67) rfl (Nat.le_of_ble_eq_true rfl) ⟨Nat.le_of_ble_eq_true rfl, Nat.le_of_ble_eq_true rfl⟩ ⟨Nat.le_of_ble_eq_true rfl, Nat.le_of_ble_eq_true rfl⟩ (by decide) (by decide) rfl rfl eL_law_1257 ?_
        refine v_aload_n X (pc := 1260) 2 rfl eL_law_1260 rfl ?_
        obtain ⟨r68, m68, hc68, h⟩ := bd_some h
        refine v_callV X (pc := 1261) [] [_] ok_V_L_156 (cM_undo  hc68) rfl (Nat.le_of_ble_eq_true rfl) ⟨Nat.le_of_ble_eq_true rfl, Nat.le_of_ble_eq_true rfl⟩ ⟨Nat.le_of_ble_eq_true rfl, Nat.le_of_ble_eq_true rfl⟩ (by decide) (by decide) rfl rfl eL_law_1261 ?_
        refine v_icmp_eq X (pc := 1264) (tgt := 1328) h eL_law_1264 (by decide) (fun h => ?_) (fun h => ?_)
        · refine v_iinc X (pc := 1328) (v := (x3 + (6 : Int32))) (lv' := [(3, _), (0, _), (1, _), (2, _)]) 3 rfl (by rfl) eL_law_1328 (Nat.le_of_ble_eq_true rfl) rfl ?_
          refine v_goto X (pc := 1331) (tgt := 18) eL_law_1331 (by decide) ?_
          exact v_sub [1, 2, 3, 0] rfl (ih _ _  h)
        · refine v_iconst X (pc := 1267) (v := (0 : Int32)) eL_law_1267 (by decide) ?_
          exact absurd (Prod.mk.inj (Option.some.inj h)).1 (by decide)
      have h := it_f h g33
      by_cases g34 : ((kx k x3.toNatClampNeg) &&& (63 : Int32)) = (34 : Int32)
      · have h := it_t h g34
        refine v_tsw X (pc := 33) (tgt := 1269) (34 : Int32) g34 eL_law_33 (by decide) (by decide) rfl (by decide) ?_
        refine v_aload_n X (pc := 1269) 1 rfl eL_law_1269 rfl ?_
        obtain ⟨r69, m69, hc69, h⟩ := bd_some h
        refine v_callV X (pc := 1270) [] [] ok_V_L_157 (cW_tear  hc69) rfl (Nat.le_of_ble_eq_true rfl) ⟨Nat.le_of_ble_eq_true rfl, Nat.le_of_ble_eq_true rfl⟩ ⟨Nat.le_of_ble_eq_true rfl, Nat.le_of_ble_eq_true rfl⟩ (by decide) (by decide) rfl rfl eL_law_1270 ?_
        refine v_aload_n X (pc := 1273) 2 rfl eL_law_1273 rfl ?_
        obtain ⟨r70, m70, hc70, h⟩ := bd_some h
        refine v_callV X (pc := 1274) [] [_] ok_V_L_160 (cM_tear  hc70) rfl (Nat.le_of_ble_eq_true rfl) ⟨Nat.le_of_ble_eq_true rfl, Nat.le_of_ble_eq_true rfl⟩ ⟨Nat.le_of_ble_eq_true rfl, Nat.le_of_ble_eq_true rfl⟩ (by decide) (by decide) rfl rfl eL_law_1274 ?_
        refine v_icmp_eq X (pc := 1277) (tgt := 1328) h eL_law_1277 (by decide) (fun h => ?_) (fun h => ?_)
        · refine v_iinc X (pc := 1328) (v := (x3 + (6 : Int32))) (lv' := [(3, _), (0, _), (1, _), (2, _)]) 3 rfl (by rfl) eL_law_1328 (Nat.le_of_ble_eq_true rfl) rfl ?_
          refine v_goto X (pc := 1331) (tgt := 18) eL_law_1331 (by decide) ?_
          exact v_sub [1, 2, 3, 0] rfl (ih _ _  h)
        · refine v_iconst X (pc := 1280) (v := (0 : Int32)) eL_law_1280 (by decide) ?_
          exact absurd (Prod.mk.inj (Option.some.inj h)).1 (by decide)
      have h := it_f h g34
      by_cases g35 : ((kx k x3.toNatClampNeg) &&& (63 : Int32)) = (35 : Int32)
      · have h := it_t h g35
        refine v_tsw X (pc := 33) (tgt := 1282) (35 : Int32) g35 eL_law_33 (by decide) (by decide) rfl (by decide) ?_
        refine v_aload_n X (pc := 1282) 1 rfl eL_law_1282 rfl ?_
        refine v_aload_n X (pc := 1283) 0 rfl eL_law_1283 rfl ?_
        refine v_iload_n X (pc := 1284) 3 rfl eL_law_1284 rfl ?_
        refine v_iconst X (pc := 1285) (v := (1 : Int32)) eL_law_1285 (by decide) ?_
        refine v_iadd X (pc := 1286) eL_law_1286 ?_
        refine v_sld X (pc := 1287) h eL_law_1287 (fun h => ?_)
        obtain ⟨r71, m71, hc71, h⟩ := bd_some h
        refine v_callV X (pc := 1288) [_] [] ok_V_L_161 (cW_count  hc71) rfl (Nat.le_of_ble_eq_true rfl) ⟨Nat.le_of_ble_eq_true rfl, Nat.le_of_ble_eq_true rfl⟩ ⟨Nat.le_of_ble_eq_true rfl, Nat.le_of_ble_eq_true rfl⟩ (by decide) (by decide) rfl rfl eL_law_1288 ?_
        refine v_aload_n X (pc := 1291) 2 rfl eL_law_1291 rfl ?_
        refine v_aload_n X (pc := 1292) 0 rfl eL_law_1292 rfl ?_
        refine v_iload_n X (pc := 1293) 3 rfl eL_law_1293 rfl ?_
        refine v_iconst X (pc := 1294) (v := (1 : Int32)) eL_law_1294 (by decide) ?_
        refine v_iadd X (pc := 1295) eL_law_1295 ?_
        refine v_sld X (pc := 1296) h eL_law_1296 (fun h => ?_)
        obtain ⟨r72, m72, hc72, h⟩ := bd_some h
        refine v_callV X (pc := 1297) [_] [_] ok_V_L_164 (cM_count  hc72) rfl (Nat.le_of_ble_eq_true rfl) ⟨Nat.le_of_ble_eq_true rfl, Nat.le_of_ble_eq_true rfl⟩ ⟨Nat.le_of_ble_eq_true rfl, Nat.le_of_ble_eq_true rfl⟩ (by decide) (by decide) rfl rfl eL_law_1297 ?_
        refine v_icmp_eq X (pc := 1300) (tgt := 1328) h eL_law_1300 (by decide) (fun h => ?_) (fun h => ?_)
        · refine v_iinc X (pc := 1328) (v := (x3 + (6 : Int32))) (lv' := [(3, _), (0, _), (1, _), (2, _)]) 3 rfl (by rfl) eL_law_1328 (Nat.le_of_ble_eq_true rfl) rfl ?_
          refine v_goto X (pc := 1331) (tgt := 18) eL_law_1331 (by decide) ?_
          exact v_sub [1, 2, 3, 0] rfl (ih _ _  h)
        · refine v_iconst X (pc := 1303) (v := (0 : Int32)) eL_law_1303 (by decide) ?_
          exact absurd (Prod.mk.inj (Option.some.inj h)).1 (by decide)
      have h := it_f h g35
      by_cases g36 : ((kx k x3.toNatClampNeg) &&& (63 : Int32)) = (36 : Int32)
      · have h := it_t h g36
        refine v_tsw X (pc := 33) (tgt := 1305) (36 : Int32) g36 eL_law_33 (by decide) (by decide) rfl (by decide) ?_
        refine v_aload_n X (pc := 1305) 1 rfl eL_law_1305 rfl ?_
        refine v_aload_n X (pc := 1306) 0 rfl eL_law_1306 rfl ?_
        refine v_iload_n X (pc := 1307) 3 rfl eL_law_1307 rfl ?_
        refine v_iconst X (pc := 1308) (v := (1 : Int32)) eL_law_1308 (by decide) ?_
        refine v_iadd X (pc := 1309) eL_law_1309 ?_
        refine v_sld X (pc := 1310) h eL_law_1310 (fun h => ?_)
        obtain ⟨r73, m73, hc73, h⟩ := bd_some h
        refine v_callV X (pc := 1311) [_] [] ok_V_L_165 (cW_status  hc73) rfl (Nat.le_of_ble_eq_true rfl) ⟨Nat.le_of_ble_eq_true rfl, Nat.le_of_ble_eq_true rfl⟩ ⟨Nat.le_of_ble_eq_true rfl, Nat.le_of_ble_eq_true rfl⟩ (by decide) (by decide) rfl rfl eL_law_1311 ?_
        refine v_aload_n X (pc := 1314) 2 rfl eL_law_1314 rfl ?_
        refine v_aload_n X (pc := 1315) 0 rfl eL_law_1315 rfl ?_
        refine v_iload_n X (pc := 1316) 3 rfl eL_law_1316 rfl ?_
        refine v_iconst X (pc := 1317) (v := (1 : Int32)) eL_law_1317 (by decide) ?_
        refine v_iadd X (pc := 1318) eL_law_1318 ?_
        refine v_sld X (pc := 1319) h eL_law_1319 (fun h => ?_)
        obtain ⟨r74, m74, hc74, h⟩ := bd_some h
        refine v_callV X (pc := 1320) [_] [_] ok_V_L_168 (cM_status  hc74) rfl (Nat.le_of_ble_eq_true rfl) ⟨Nat.le_of_ble_eq_true rfl, Nat.le_of_ble_eq_true rfl⟩ ⟨Nat.le_of_ble_eq_true rfl, Nat.le_of_ble_eq_true rfl⟩ (by decide) (by decide) rfl rfl eL_law_1320 ?_
        refine v_icmp_eq X (pc := 1323) (tgt := 1328) h eL_law_1323 (by decide) (fun h => ?_) (fun h => ?_)
        · refine v_iinc X (pc := 1328) (v := (x3 + (6 : Int32))) (lv' := [(3, _), (0, _), (1, _), (2, _)]) 3 rfl (by rfl) eL_law_1328 (Nat.le_of_ble_eq_true rfl) rfl ?_
          refine v_goto X (pc := 1331) (tgt := 18) eL_law_1331 (by decide) ?_
          exact v_sub [1, 2, 3, 0] rfl (ih _ _  h)
        · refine v_iconst X (pc := 1326) (v := (0 : Int32)) eL_law_1326 (by decide) ?_
          exact absurd (Prod.mk.inj (Option.some.inj h)).1 (by decide)
      have h := it_f h g36
      refine v_tswD X (pc := 33) (tgt := 1328) (tsw_out_0_36 g0 g1 g2 g3 g4 g5 g6 g7 g8 g9 g10 g11 g12 g13 g14 g15 g16 g17 g18 g19 g20 g21 g22 g23 g24 g25 g26 g27 g28 g29 g30 g31 g32 g33 g34 g35 g36) eL_law_33 (by decide) ?_
      refine v_iinc X (pc := 1328) (v := (x3 + (6 : Int32))) (lv' := [(3, _), (0, _), (1, _), (2, _)]) 3 rfl (by rfl) eL_law_1328 (Nat.le_of_ble_eq_true rfl) rfl ?_
      refine v_goto X (pc := 1331) (tgt := 18) eL_law_1331 (by decide) ?_
      exact v_sub [1, 2, 3, 0] rfl (ih _ _  h)
