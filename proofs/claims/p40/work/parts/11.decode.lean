/-! GENERATED: what each instruction is. -/
theorem eW_rota_0 : decode prog_1_method_2_code 0 = .ok (.iload_n 1, 1) := by decide +kernel
theorem eW_rota_1 : decode prog_1_method_2_code 1 = .ok (.iload_n 2, 1) := by decide +kernel
theorem eW_rota_2 : decode prog_1_method_2_code 2 = .ok (.invokestatic 47, 3) := by decide +kernel
theorem eW_rota_5 : decode prog_1_method_2_code 5 = .ok (.ifCond .ne 10, 3) := by decide +kernel
theorem eW_rota_8 : decode prog_1_method_2_code 8 = .ok (.aload_n 0, 1) := by decide +kernel
theorem eW_rota_9 : decode prog_1_method_2_code 9 = .ok (.ldc 51, 2) := by decide +kernel
theorem eW_rota_11 : decode prog_1_method_2_code 11 = .ok (.invokevirtual 52, 3) := by decide +kernel
theorem eW_rota_14 : decode prog_1_method_2_code 14 = .ok (.ireturn, 1) := by decide +kernel
theorem eW_rota_15 : decode prog_1_method_2_code 15 = .ok (.aload_n 0, 1) := by decide +kernel
theorem eW_rota_16 : decode prog_1_method_2_code 16 = .ok (.getfield 10, 3) := by decide +kernel
theorem eW_rota_19 : decode prog_1_method_2_code 19 = .ok (.getfield 56, 3) := by decide +kernel
theorem eW_rota_22 : decode prog_1_method_2_code 22 = .ok (.iload_n 1, 1) := by decide +kernel
theorem eW_rota_23 : decode prog_1_method_2_code 23 = .ok (.iaload, 1) := by decide +kernel
theorem eW_rota_24 : decode prog_1_method_2_code 24 = .ok (.istore_n 3, 1) := by decide +kernel
theorem eW_rota_25 : decode prog_1_method_2_code 25 = .ok (.aload_n 0, 1) := by decide +kernel
theorem eW_rota_26 : decode prog_1_method_2_code 26 = .ok (.getfield 10, 3) := by decide +kernel
theorem eW_rota_29 : decode prog_1_method_2_code 29 = .ok (.getfield 56, 3) := by decide +kernel
theorem eW_rota_32 : decode prog_1_method_2_code 32 = .ok (.iload_n 1, 1) := by decide +kernel
theorem eW_rota_33 : decode prog_1_method_2_code 33 = .ok (.iload_n 2, 1) := by decide +kernel
theorem eW_rota_34 : decode prog_1_method_2_code 34 = .ok (.iastore, 1) := by decide +kernel
theorem eW_rota_35 : decode prog_1_method_2_code 35 = .ok (.iload_n 3, 1) := by decide +kernel
theorem eW_rota_36 : decode prog_1_method_2_code 36 = .ok (.ireturn, 1) := by decide +kernel
theorem eW_mayBeRota_0 : decode prog_1_method_52_code 0 = .ok (.iload_n 0, 1) := by decide +kernel
theorem eW_mayBeRota_1 : decode prog_1_method_52_code 1 = .ok (.iconst 0, 1) := by decide +kernel
theorem eW_mayBeRota_2 : decode prog_1_method_52_code 2 = .ok (.iconst 3, 1) := by decide +kernel
theorem eW_mayBeRota_3 : decode prog_1_method_52_code 3 = .ok (.invokestatic 82, 3) := by decide +kernel
theorem eW_mayBeRota_6 : decode prog_1_method_52_code 6 = .ok (.ifCond .eq 24, 3) := by decide +kernel
theorem eW_mayBeRota_9 : decode prog_1_method_52_code 9 = .ok (.iload_n 1, 1) := by decide +kernel
theorem eW_mayBeRota_10 : decode prog_1_method_52_code 10 = .ok (.getstatic 177, 3) := by decide +kernel
theorem eW_mayBeRota_13 : decode prog_1_method_52_code 13 = .ok (.iload_n 0, 1) := by decide +kernel
theorem eW_mayBeRota_14 : decode prog_1_method_52_code 14 = .ok (.iaload, 1) := by decide +kernel
theorem eW_mayBeRota_15 : decode prog_1_method_52_code 15 = .ok (.getstatic 180, 3) := by decide +kernel
theorem eW_mayBeRota_18 : decode prog_1_method_52_code 18 = .ok (.iload_n 0, 1) := by decide +kernel
theorem eW_mayBeRota_19 : decode prog_1_method_52_code 19 = .ok (.iaload, 1) := by decide +kernel
theorem eW_mayBeRota_20 : decode prog_1_method_52_code 20 = .ok (.invokestatic 82, 3) := by decide +kernel
theorem eW_mayBeRota_23 : decode prog_1_method_52_code 23 = .ok (.ifCond .eq 7, 3) := by decide +kernel
theorem eW_mayBeRota_26 : decode prog_1_method_52_code 26 = .ok (.iconst 1, 1) := by decide +kernel
theorem eW_mayBeRota_27 : decode prog_1_method_52_code 27 = .ok (.goto 4, 3) := by decide +kernel
theorem eW_mayBeRota_30 : decode prog_1_method_52_code 30 = .ok (.iconst 0, 1) := by decide +kernel
theorem eW_mayBeRota_31 : decode prog_1_method_52_code 31 = .ok (.ireturn, 1) := by decide +kernel
theorem eW_isIn_0 : decode prog_1_method_46_code 0 = .ok (.iload_n 0, 1) := by decide +kernel
theorem eW_isIn_1 : decode prog_1_method_46_code 1 = .ok (.iload_n 1, 1) := by decide +kernel
theorem eW_isIn_2 : decode prog_1_method_46_code 2 = .ok (.if_icmp .lt 12, 3) := by decide +kernel
theorem eW_isIn_5 : decode prog_1_method_46_code 5 = .ok (.iload_n 0, 1) := by decide +kernel
theorem eW_isIn_6 : decode prog_1_method_46_code 6 = .ok (.iload_n 2, 1) := by decide +kernel
theorem eW_isIn_7 : decode prog_1_method_46_code 7 = .ok (.if_icmp .gt 7, 3) := by decide +kernel
theorem eW_isIn_10 : decode prog_1_method_46_code 10 = .ok (.iconst 1, 1) := by decide +kernel
theorem eW_isIn_11 : decode prog_1_method_46_code 11 = .ok (.goto 4, 3) := by decide +kernel
theorem eW_isIn_14 : decode prog_1_method_46_code 14 = .ok (.iconst 0, 1) := by decide +kernel
theorem eW_isIn_15 : decode prog_1_method_46_code 15 = .ok (.ireturn, 1) := by decide +kernel
theorem eW_finding_0 : decode prog_1_method_39_code 0 = .ok (.ldc 51, 2) := by decide +kernel
theorem eW_finding_2 : decode prog_1_method_39_code 2 = .ok (.iload_n 1, 1) := by decide +kernel
theorem eW_finding_3 : decode prog_1_method_39_code 3 = .ok (.isub, 1) := by decide +kernel
theorem eW_finding_4 : decode prog_1_method_39_code 4 = .ok (.istore_n 2, 1) := by decide +kernel
theorem eW_finding_5 : decode prog_1_method_39_code 5 = .ok (.iload_n 2, 1) := by decide +kernel
theorem eW_finding_6 : decode prog_1_method_39_code 6 = .ok (.iconst 0, 1) := by decide +kernel
theorem eW_finding_7 : decode prog_1_method_39_code 7 = .ok (.bipush 6, 2) := by decide +kernel
theorem eW_finding_9 : decode prog_1_method_39_code 9 = .ok (.invokestatic 82, 3) := by decide +kernel
theorem eW_finding_12 : decode prog_1_method_39_code 12 = .ok (.ifCond .eq 13, 3) := by decide +kernel
theorem eW_finding_15 : decode prog_1_method_39_code 15 = .ok (.aload_n 0, 1) := by decide +kernel
theorem eW_finding_16 : decode prog_1_method_39_code 16 = .ok (.getfield 39, 3) := by decide +kernel
theorem eW_finding_19 : decode prog_1_method_39_code 19 = .ok (.iload_n 2, 1) := by decide +kernel
theorem eW_finding_20 : decode prog_1_method_39_code 20 = .ok (.dup2, 1) := by decide +kernel
theorem eW_finding_21 : decode prog_1_method_39_code 21 = .ok (.iaload, 1) := by decide +kernel
theorem eW_finding_22 : decode prog_1_method_39_code 22 = .ok (.iconst 1, 1) := by decide +kernel
theorem eW_finding_23 : decode prog_1_method_39_code 23 = .ok (.iadd, 1) := by decide +kernel
theorem eW_finding_24 : decode prog_1_method_39_code 24 = .ok (.iastore, 1) := by decide +kernel
theorem eW_finding_25 : decode prog_1_method_39_code 25 = .ok (.iload_n 1, 1) := by decide +kernel
theorem eW_finding_26 : decode prog_1_method_39_code 26 = .ok (.ireturn, 1) := by decide +kernel
theorem eW_set_0 : decode prog_1_method_5_code 0 = .ok (.aload_n 0, 1) := by decide +kernel
theorem eW_set_1 : decode prog_1_method_5_code 1 = .ok (.iload_n 1, 1) := by decide +kernel
theorem eW_set_2 : decode prog_1_method_5_code 2 = .ok (.invokevirtual 75, 3) := by decide +kernel
theorem eW_set_5 : decode prog_1_method_5_code 5 = .ok (.ifCond .eq 25, 3) := by decide +kernel
theorem eW_set_8 : decode prog_1_method_5_code 8 = .ok (.iload_n 2, 1) := by decide +kernel
theorem eW_set_9 : decode prog_1_method_5_code 9 = .ok (.iconst 1, 1) := by decide +kernel
theorem eW_set_10 : decode prog_1_method_5_code 10 = .ok (.iconst 5, 1) := by decide +kernel
theorem eW_set_11 : decode prog_1_method_5_code 11 = .ok (.invokestatic 82, 3) := by decide +kernel
theorem eW_set_14 : decode prog_1_method_5_code 14 = .ok (.ifCond .eq 16, 3) := by decide +kernel
theorem eW_set_17 : decode prog_1_method_5_code 17 = .ok (.iload_n 3, 1) := by decide +kernel
theorem eW_set_18 : decode prog_1_method_5_code 18 = .ok (.iconst 0, 1) := by decide +kernel
theorem eW_set_19 : decode prog_1_method_5_code 19 = .ok (.getstatic 100, 3) := by decide +kernel
theorem eW_set_22 : decode prog_1_method_5_code 22 = .ok (.iload_n 2, 1) := by decide +kernel
theorem eW_set_23 : decode prog_1_method_5_code 23 = .ok (.iaload, 1) := by decide +kernel
theorem eW_set_24 : decode prog_1_method_5_code 24 = .ok (.invokestatic 82, 3) := by decide +kernel
theorem eW_set_27 : decode prog_1_method_5_code 27 = .ok (.ifCond .ne 10, 3) := by decide +kernel
theorem eW_set_30 : decode prog_1_method_5_code 30 = .ok (.aload_n 0, 1) := by decide +kernel
theorem eW_set_31 : decode prog_1_method_5_code 31 = .ok (.ldc 51, 2) := by decide +kernel
theorem eW_set_33 : decode prog_1_method_5_code 33 = .ok (.invokevirtual 52, 3) := by decide +kernel
theorem eW_set_36 : decode prog_1_method_5_code 36 = .ok (.ireturn, 1) := by decide +kernel
theorem eW_set_37 : decode prog_1_method_5_code 37 = .ok (.aload_n 0, 1) := by decide +kernel
theorem eW_set_38 : decode prog_1_method_5_code 38 = .ok (.getfield 10, 3) := by decide +kernel
theorem eW_set_41 : decode prog_1_method_5_code 41 = .ok (.iload_n 1, 1) := by decide +kernel
theorem eW_set_42 : decode prog_1_method_5_code 42 = .ok (.iload_n 2, 1) := by decide +kernel
theorem eW_set_43 : decode prog_1_method_5_code 43 = .ok (.iload_n 3, 1) := by decide +kernel
theorem eW_set_44 : decode prog_1_method_5_code 44 = .ok (.invokevirtual 103, 3) := by decide +kernel
theorem eW_set_47 : decode prog_1_method_5_code 47 = .ok (.ireturn, 1) := by decide +kernel
theorem eW_isWall_0 : decode prog_1_method_40_code 0 = .ok (.iload_n 1, 1) := by decide +kernel
theorem eW_isWall_1 : decode prog_1_method_40_code 1 = .ok (.iconst 0, 1) := by decide +kernel
theorem eW_isWall_2 : decode prog_1_method_40_code 2 = .ok (.aload_n 0, 1) := by decide +kernel
theorem eW_isWall_3 : decode prog_1_method_40_code 3 = .ok (.getfield 10, 3) := by decide +kernel
theorem eW_isWall_6 : decode prog_1_method_40_code 6 = .ok (.getfield 168, 3) := by decide +kernel
theorem eW_isWall_9 : decode prog_1_method_40_code 9 = .ok (.iconst 1, 1) := by decide +kernel
theorem eW_isWall_10 : decode prog_1_method_40_code 10 = .ok (.isub, 1) := by decide +kernel
theorem eW_isWall_11 : decode prog_1_method_40_code 11 = .ok (.invokestatic 82, 3) := by decide +kernel
theorem eW_isWall_14 : decode prog_1_method_40_code 14 = .ok (.ireturn, 1) := by decide +kernel
theorem eP_replace_0 : decode prog_2_method_5_code 0 = .ok (.aload_n 0, 1) := by decide +kernel
theorem eP_replace_1 : decode prog_2_method_5_code 1 = .ok (.getfield 24, 3) := by decide +kernel
theorem eP_replace_4 : decode prog_2_method_5_code 4 = .ok (.iload_n 1, 1) := by decide +kernel
theorem eP_replace_5 : decode prog_2_method_5_code 5 = .ok (.aaload, 1) := by decide +kernel
theorem eP_replace_6 : decode prog_2_method_5_code 6 = .ok (.iload_n 2, 1) := by decide +kernel
theorem eP_replace_7 : decode prog_2_method_5_code 7 = .ok (.iaload, 1) := by decide +kernel
theorem eP_replace_8 : decode prog_2_method_5_code 8 = .ok (.istore 4, 2) := by decide +kernel
theorem eP_replace_10 : decode prog_2_method_5_code 10 = .ok (.aload_n 0, 1) := by decide +kernel
theorem eP_replace_11 : decode prog_2_method_5_code 11 = .ok (.getfield 24, 3) := by decide +kernel
theorem eP_replace_14 : decode prog_2_method_5_code 14 = .ok (.iload_n 1, 1) := by decide +kernel
theorem eP_replace_15 : decode prog_2_method_5_code 15 = .ok (.aaload, 1) := by decide +kernel
theorem eP_replace_16 : decode prog_2_method_5_code 16 = .ok (.iload_n 2, 1) := by decide +kernel
theorem eP_replace_17 : decode prog_2_method_5_code 17 = .ok (.iload_n 3, 1) := by decide +kernel
theorem eP_replace_18 : decode prog_2_method_5_code 18 = .ok (.iastore, 1) := by decide +kernel
theorem eP_replace_19 : decode prog_2_method_5_code 19 = .ok (.iload 4, 2) := by decide +kernel
theorem eP_replace_21 : decode prog_2_method_5_code 21 = .ok (.ireturn, 1) := by decide +kernel
theorem eW_say_0 : decode prog_1_method_9_code 0 = .ok (.iload_n 1, 1) := by decide +kernel
theorem eW_say_1 : decode prog_1_method_9_code 1 = .ok (.invokestatic 63, 3) := by decide +kernel
theorem eW_say_4 : decode prog_1_method_9_code 4 = .ok (.ifCond .eq 10, 3) := by decide +kernel
theorem eW_say_7 : decode prog_1_method_9_code 7 = .ok (.iload_n 2, 1) := by decide +kernel
theorem eW_say_8 : decode prog_1_method_9_code 8 = .ok (.invokestatic 111, 3) := by decide +kernel
theorem eW_say_11 : decode prog_1_method_9_code 11 = .ok (.ifCond .ne 10, 3) := by decide +kernel
theorem eW_say_14 : decode prog_1_method_9_code 14 = .ok (.aload_n 0, 1) := by decide +kernel
theorem eW_say_15 : decode prog_1_method_9_code 15 = .ok (.ldc 51, 2) := by decide +kernel
theorem eW_say_17 : decode prog_1_method_9_code 17 = .ok (.invokevirtual 52, 3) := by decide +kernel
theorem eW_say_20 : decode prog_1_method_9_code 20 = .ok (.ireturn, 1) := by decide +kernel
theorem eW_say_21 : decode prog_1_method_9_code 21 = .ok (.aload_n 0, 1) := by decide +kernel
theorem eW_say_22 : decode prog_1_method_9_code 22 = .ok (.getfield 10, 3) := by decide +kernel
theorem eW_say_25 : decode prog_1_method_9_code 25 = .ok (.aload_n 0, 1) := by decide +kernel
theorem eW_say_26 : decode prog_1_method_9_code 26 = .ok (.getfield 10, 3) := by decide +kernel
theorem eW_say_29 : decode prog_1_method_9_code 29 = .ok (.iload_n 1, 1) := by decide +kernel
theorem eW_say_30 : decode prog_1_method_9_code 30 = .ok (.invokevirtual 119, 3) := by decide +kernel
theorem eW_say_33 : decode prog_1_method_9_code 33 = .ok (.iload_n 2, 1) := by decide +kernel
theorem eW_say_34 : decode prog_1_method_9_code 34 = .ok (.invokevirtual 122, 3) := by decide +kernel
theorem eW_say_37 : decode prog_1_method_9_code 37 = .ok (.ireturn, 1) := by decide +kernel
theorem eW_isRoom_0 : decode prog_1_method_48_code 0 = .ok (.iload_n 0, 1) := by decide +kernel
theorem eW_isRoom_1 : decode prog_1_method_48_code 1 = .ok (.iconst 0, 1) := by decide +kernel
theorem eW_isRoom_2 : decode prog_1_method_48_code 2 = .ok (.bipush 9, 2) := by decide +kernel
theorem eW_isRoom_4 : decode prog_1_method_48_code 4 = .ok (.invokestatic 82, 3) := by decide +kernel
theorem eW_isRoom_7 : decode prog_1_method_48_code 7 = .ok (.ireturn, 1) := by decide +kernel
theorem eW_isWord_0 : decode prog_1_method_49_code 0 = .ok (.iload_n 0, 1) := by decide +kernel
theorem eW_isWord_1 : decode prog_1_method_49_code 1 = .ok (.iconst 0, 1) := by decide +kernel
theorem eW_isWord_2 : decode prog_1_method_49_code 2 = .ok (.bipush 15, 2) := by decide +kernel
theorem eW_isWord_4 : decode prog_1_method_49_code 4 = .ok (.invokestatic 82, 3) := by decide +kernel
theorem eW_isWord_7 : decode prog_1_method_49_code 7 = .ok (.ireturn, 1) := by decide +kernel
theorem eP_near_0 : decode prog_2_method_12_code 0 = .ok (.aload_n 0, 1) := by decide +kernel
theorem eP_near_1 : decode prog_2_method_12_code 1 = .ok (.iload_n 1, 1) := by decide +kernel
theorem eP_near_2 : decode prog_2_method_12_code 2 = .ok (.invokevirtual 54, 3) := by decide +kernel
theorem eP_near_5 : decode prog_2_method_12_code 5 = .ok (.istore_n 2, 1) := by decide +kernel
theorem eP_near_6 : decode prog_2_method_12_code 6 = .ok (.iconst 0, 1) := by decide +kernel
theorem eP_near_7 : decode prog_2_method_12_code 7 = .ok (.istore_n 3, 1) := by decide +kernel
theorem eP_near_8 : decode prog_2_method_12_code 8 = .ok (.iconst 0, 1) := by decide +kernel
theorem eP_near_9 : decode prog_2_method_12_code 9 = .ok (.istore 4, 2) := by decide +kernel
theorem eP_near_11 : decode prog_2_method_12_code 11 = .ok (.iload 4, 2) := by decide +kernel
theorem eP_near_13 : decode prog_2_method_12_code 13 = .ok (.aload_n 0, 1) := by decide +kernel
theorem eP_near_14 : decode prog_2_method_12_code 14 = .ok (.getfield 19, 3) := by decide +kernel
theorem eP_near_17 : decode prog_2_method_12_code 17 = .ok (.if_icmp .ge 32, 3) := by decide +kernel
theorem eP_near_20 : decode prog_2_method_12_code 20 = .ok (.aload_n 0, 1) := by decide +kernel
theorem eP_near_21 : decode prog_2_method_12_code 21 = .ok (.aload_n 0, 1) := by decide +kernel
theorem eP_near_22 : decode prog_2_method_12_code 22 = .ok (.getfield 24, 3) := by decide +kernel
theorem eP_near_25 : decode prog_2_method_12_code 25 = .ok (.iload 4, 2) := by decide +kernel
theorem eP_near_27 : decode prog_2_method_12_code 27 = .ok (.aaload, 1) := by decide +kernel
theorem eP_near_28 : decode prog_2_method_12_code 28 = .ok (.invokevirtual 50, 3) := by decide +kernel
theorem eP_near_31 : decode prog_2_method_12_code 31 = .ok (.iload_n 2, 1) := by decide +kernel
theorem eP_near_32 : decode prog_2_method_12_code 32 = .ok (.iand, 1) := by decide +kernel
theorem eP_near_33 : decode prog_2_method_12_code 33 = .ok (.ifCond .eq 10, 3) := by decide +kernel
theorem eP_near_36 : decode prog_2_method_12_code 36 = .ok (.iload_n 3, 1) := by decide +kernel
theorem eP_near_37 : decode prog_2_method_12_code 37 = .ok (.iconst 1, 1) := by decide +kernel
theorem eP_near_38 : decode prog_2_method_12_code 38 = .ok (.iload 4, 2) := by decide +kernel
theorem eP_near_40 : decode prog_2_method_12_code 40 = .ok (.ishl, 1) := by decide +kernel
theorem eP_near_41 : decode prog_2_method_12_code 41 = .ok (.ior, 1) := by decide +kernel
theorem eP_near_42 : decode prog_2_method_12_code 42 = .ok (.istore_n 3, 1) := by decide +kernel
theorem eP_near_43 : decode prog_2_method_12_code 43 = .ok (.iinc 4 1, 3) := by decide +kernel
theorem eP_near_46 : decode prog_2_method_12_code 46 = .ok (.goto (-35), 3) := by decide +kernel
theorem eP_near_49 : decode prog_2_method_12_code 49 = .ok (.iload_n 3, 1) := by decide +kernel
theorem eP_near_50 : decode prog_2_method_12_code 50 = .ok (.ireturn, 1) := by decide +kernel
theorem eP_leaks_0 : decode prog_2_method_11_code 0 = .ok (.iconst 1, 1) := by decide +kernel
theorem eP_leaks_1 : decode prog_2_method_11_code 1 = .ok (.iload_n 1, 1) := by decide +kernel
theorem eP_leaks_2 : decode prog_2_method_11_code 2 = .ok (.ishl, 1) := by decide +kernel
theorem eP_leaks_3 : decode prog_2_method_11_code 3 = .ok (.istore_n 2, 1) := by decide +kernel
theorem eP_leaks_4 : decode prog_2_method_11_code 4 = .ok (.iconst 0, 1) := by decide +kernel
theorem eP_leaks_5 : decode prog_2_method_11_code 5 = .ok (.istore_n 3, 1) := by decide +kernel
theorem eP_leaks_6 : decode prog_2_method_11_code 6 = .ok (.iload_n 3, 1) := by decide +kernel
theorem eP_leaks_7 : decode prog_2_method_11_code 7 = .ok (.bipush 10, 2) := by decide +kernel
theorem eP_leaks_9 : decode prog_2_method_11_code 9 = .ok (.if_icmp .ge 65, 3) := by decide +kernel
theorem eP_leaks_12 : decode prog_2_method_11_code 12 = .ok (.iconst 0, 1) := by decide +kernel
theorem eP_leaks_13 : decode prog_2_method_11_code 13 = .ok (.istore 4, 2) := by decide +kernel
theorem eP_leaks_15 : decode prog_2_method_11_code 15 = .ok (.iload 4, 2) := by decide +kernel
theorem eP_leaks_17 : decode prog_2_method_11_code 17 = .ok (.aload_n 0, 1) := by decide +kernel
theorem eP_leaks_18 : decode prog_2_method_11_code 18 = .ok (.getfield 19, 3) := by decide +kernel
theorem eP_leaks_21 : decode prog_2_method_11_code 21 = .ok (.if_icmp .ge 47, 3) := by decide +kernel
theorem eP_leaks_24 : decode prog_2_method_11_code 24 = .ok (.aload_n 0, 1) := by decide +kernel
theorem eP_leaks_25 : decode prog_2_method_11_code 25 = .ok (.aload_n 0, 1) := by decide +kernel
theorem eP_leaks_26 : decode prog_2_method_11_code 26 = .ok (.getfield 24, 3) := by decide +kernel
theorem eP_leaks_29 : decode prog_2_method_11_code 29 = .ok (.iload 4, 2) := by decide +kernel
theorem eP_leaks_31 : decode prog_2_method_11_code 31 = .ok (.aaload, 1) := by decide +kernel
theorem eP_leaks_32 : decode prog_2_method_11_code 32 = .ok (.invokevirtual 50, 3) := by decide +kernel
theorem eP_leaks_35 : decode prog_2_method_11_code 35 = .ok (.istore 5, 2) := by decide +kernel
theorem eP_leaks_37 : decode prog_2_method_11_code 37 = .ok (.aload_n 0, 1) := by decide +kernel
theorem eP_leaks_38 : decode prog_2_method_11_code 38 = .ok (.getfield 24, 3) := by decide +kernel
theorem eP_leaks_41 : decode prog_2_method_11_code 41 = .ok (.iload 4, 2) := by decide +kernel
theorem eP_leaks_43 : decode prog_2_method_11_code 43 = .ok (.aaload, 1) := by decide +kernel
theorem eP_leaks_44 : decode prog_2_method_11_code 44 = .ok (.iconst 0, 1) := by decide +kernel
theorem eP_leaks_45 : decode prog_2_method_11_code 45 = .ok (.iaload, 1) := by decide +kernel
theorem eP_leaks_46 : decode prog_2_method_11_code 46 = .ok (.iconst 3, 1) := by decide +kernel
theorem eP_leaks_47 : decode prog_2_method_11_code 47 = .ok (.if_icmp .ne 15, 3) := by decide +kernel
theorem eP_leaks_50 : decode prog_2_method_11_code 50 = .ok (.iload 5, 2) := by decide +kernel
theorem eP_leaks_52 : decode prog_2_method_11_code 52 = .ok (.iload_n 2, 1) := by decide +kernel
theorem eP_leaks_53 : decode prog_2_method_11_code 53 = .ok (.iand, 1) := by decide +kernel
theorem eP_leaks_54 : decode prog_2_method_11_code 54 = .ok (.ifCond .eq 8, 3) := by decide +kernel
theorem eP_leaks_57 : decode prog_2_method_11_code 57 = .ok (.iload_n 2, 1) := by decide +kernel
theorem eP_leaks_58 : decode prog_2_method_11_code 58 = .ok (.iload 5, 2) := by decide +kernel
theorem eP_leaks_60 : decode prog_2_method_11_code 60 = .ok (.ior, 1) := by decide +kernel
theorem eP_leaks_61 : decode prog_2_method_11_code 61 = .ok (.istore_n 2, 1) := by decide +kernel
theorem eP_leaks_62 : decode prog_2_method_11_code 62 = .ok (.iinc 4 1, 3) := by decide +kernel
theorem eP_leaks_65 : decode prog_2_method_11_code 65 = .ok (.goto (-50), 3) := by decide +kernel
theorem eP_leaks_68 : decode prog_2_method_11_code 68 = .ok (.iinc 3 1, 3) := by decide +kernel
theorem eP_leaks_71 : decode prog_2_method_11_code 71 = .ok (.goto (-65), 3) := by decide +kernel
theorem eP_leaks_74 : decode prog_2_method_11_code 74 = .ok (.iload_n 2, 1) := by decide +kernel
theorem eP_leaks_75 : decode prog_2_method_11_code 75 = .ok (.ireturn, 1) := by decide +kernel
theorem eP_roomsOf_0 : decode prog_2_method_13_code 0 = .ok (.iconst 1, 1) := by decide +kernel
theorem eP_roomsOf_1 : decode prog_2_method_13_code 1 = .ok (.aload_n 1, 1) := by decide +kernel
theorem eP_roomsOf_2 : decode prog_2_method_13_code 2 = .ok (.iconst 1, 1) := by decide +kernel
theorem eP_roomsOf_3 : decode prog_2_method_13_code 3 = .ok (.iaload, 1) := by decide +kernel
theorem eP_roomsOf_4 : decode prog_2_method_13_code 4 = .ok (.ishl, 1) := by decide +kernel
theorem eP_roomsOf_5 : decode prog_2_method_13_code 5 = .ok (.iconst 1, 1) := by decide +kernel
theorem eP_roomsOf_6 : decode prog_2_method_13_code 6 = .ok (.aload_n 1, 1) := by decide +kernel
theorem eP_roomsOf_7 : decode prog_2_method_13_code 7 = .ok (.iconst 2, 1) := by decide +kernel
theorem eP_roomsOf_8 : decode prog_2_method_13_code 8 = .ok (.iaload, 1) := by decide +kernel
theorem eP_roomsOf_9 : decode prog_2_method_13_code 9 = .ok (.ishl, 1) := by decide +kernel
theorem eP_roomsOf_10 : decode prog_2_method_13_code 10 = .ok (.ior, 1) := by decide +kernel
theorem eP_roomsOf_11 : decode prog_2_method_13_code 11 = .ok (.ireturn, 1) := by decide +kernel
theorem eP_utter_0 : decode prog_2_method_14_code 0 = .ok (.iload_n 1, 1) := by decide +kernel
theorem eP_utter_1 : decode prog_2_method_14_code 1 = .ok (.aload_n 0, 1) := by decide +kernel
theorem eP_utter_2 : decode prog_2_method_14_code 2 = .ok (.aload_n 0, 1) := by decide +kernel
theorem eP_utter_3 : decode prog_2_method_14_code 3 = .ok (.getfield 9, 3) := by decide +kernel
theorem eP_utter_6 : decode prog_2_method_14_code 6 = .ok (.aload_n 0, 1) := by decide +kernel
theorem eP_utter_7 : decode prog_2_method_14_code 7 = .ok (.getfield 15, 3) := by decide +kernel
theorem eP_utter_10 : decode prog_2_method_14_code 10 = .ok (.iconst 0, 1) := by decide +kernel
theorem eP_utter_11 : decode prog_2_method_14_code 11 = .ok (.iaload, 1) := by decide +kernel
theorem eP_utter_12 : decode prog_2_method_14_code 12 = .ok (.invokevirtual 36, 3) := by decide +kernel
theorem eP_utter_15 : decode prog_2_method_14_code 15 = .ok (.iand, 1) := by decide +kernel
theorem eP_utter_16 : decode prog_2_method_14_code 16 = .ok (.istore_n 3, 1) := by decide +kernel
theorem eP_utter_17 : decode prog_2_method_14_code 17 = .ok (.iconst 0, 1) := by decide +kernel
theorem eP_utter_18 : decode prog_2_method_14_code 18 = .ok (.istore 4, 2) := by decide +kernel
theorem eP_utter_20 : decode prog_2_method_14_code 20 = .ok (.iconst 0, 1) := by decide +kernel
theorem eP_utter_21 : decode prog_2_method_14_code 21 = .ok (.istore 5, 2) := by decide +kernel
theorem eP_utter_23 : decode prog_2_method_14_code 23 = .ok (.iload 5, 2) := by decide +kernel
theorem eP_utter_25 : decode prog_2_method_14_code 25 = .ok (.aload_n 0, 1) := by decide +kernel
theorem eP_utter_26 : decode prog_2_method_14_code 26 = .ok (.getfield 19, 3) := by decide +kernel
theorem eP_utter_29 : decode prog_2_method_14_code 29 = .ok (.if_icmp .ge 91, 3) := by decide +kernel
theorem eP_utter_32 : decode prog_2_method_14_code 32 = .ok (.aload_n 0, 1) := by decide +kernel
theorem eP_utter_33 : decode prog_2_method_14_code 33 = .ok (.getfield 24, 3) := by decide +kernel
theorem eP_utter_36 : decode prog_2_method_14_code 36 = .ok (.iload 5, 2) := by decide +kernel
theorem eP_utter_38 : decode prog_2_method_14_code 38 = .ok (.aaload, 1) := by decide +kernel
theorem eP_utter_39 : decode prog_2_method_14_code 39 = .ok (.astore 6, 2) := by decide +kernel
theorem eP_utter_41 : decode prog_2_method_14_code 41 = .ok (.aload 6, 2) := by decide +kernel
theorem eP_utter_43 : decode prog_2_method_14_code 43 = .ok (.iload_n 2, 1) := by decide +kernel
theorem eP_utter_44 : decode prog_2_method_14_code 44 = .ok (.invokestatic 58, 3) := by decide +kernel
theorem eP_utter_47 : decode prog_2_method_14_code 47 = .ok (.istore 7, 2) := by decide +kernel
theorem eP_utter_49 : decode prog_2_method_14_code 49 = .ok (.iload_n 3, 1) := by decide +kernel
theorem eP_utter_50 : decode prog_2_method_14_code 50 = .ok (.iload 5, 2) := by decide +kernel
theorem eP_utter_52 : decode prog_2_method_14_code 52 = .ok (.ishr, 1) := by decide +kernel
theorem eP_utter_53 : decode prog_2_method_14_code 53 = .ok (.iconst 1, 1) := by decide +kernel
theorem eP_utter_54 : decode prog_2_method_14_code 54 = .ok (.iand, 1) := by decide +kernel
theorem eP_utter_55 : decode prog_2_method_14_code 55 = .ok (.iconst 1, 1) := by decide +kernel
theorem eP_utter_56 : decode prog_2_method_14_code 56 = .ok (.if_icmp .ne 58, 3) := by decide +kernel
theorem eP_utter_59 : decode prog_2_method_14_code 59 = .ok (.aload_n 0, 1) := by decide +kernel
theorem eP_utter_60 : decode prog_2_method_14_code 60 = .ok (.aload 6, 2) := by decide +kernel
theorem eP_utter_62 : decode prog_2_method_14_code 62 = .ok (.invokevirtual 62, 3) := by decide +kernel
theorem eP_utter_65 : decode prog_2_method_14_code 65 = .ok (.ifCond .eq 49, 3) := by decide +kernel
theorem eP_utter_68 : decode prog_2_method_14_code 68 = .ok (.iload 7, 2) := by decide +kernel
theorem eP_utter_70 : decode prog_2_method_14_code 70 = .ok (.ifCond .lt 44, 3) := by decide +kernel
theorem eP_utter_73 : decode prog_2_method_14_code 73 = .ok (.aload 6, 2) := by decide +kernel
theorem eP_utter_75 : decode prog_2_method_14_code 75 = .ok (.iconst 4, 1) := by decide +kernel
theorem eP_utter_76 : decode prog_2_method_14_code 76 = .ok (.dup2, 1) := by decide +kernel
theorem eP_utter_77 : decode prog_2_method_14_code 77 = .ok (.iaload, 1) := by decide +kernel
theorem eP_utter_78 : decode prog_2_method_14_code 78 = .ok (.iconst 1, 1) := by decide +kernel
theorem eP_utter_79 : decode prog_2_method_14_code 79 = .ok (.iload 7, 2) := by decide +kernel
theorem eP_utter_81 : decode prog_2_method_14_code 81 = .ok (.ishl, 1) := by decide +kernel
theorem eP_utter_82 : decode prog_2_method_14_code 82 = .ok (.ior, 1) := by decide +kernel
theorem eP_utter_83 : decode prog_2_method_14_code 83 = .ok (.iastore, 1) := by decide +kernel
theorem eP_utter_84 : decode prog_2_method_14_code 84 = .ok (.aload 6, 2) := by decide +kernel
theorem eP_utter_86 : decode prog_2_method_14_code 86 = .ok (.iconst 5, 1) := by decide +kernel
theorem eP_utter_87 : decode prog_2_method_14_code 87 = .ok (.bipush 99, 2) := by decide +kernel
theorem eP_utter_89 : decode prog_2_method_14_code 89 = .ok (.aload 6, 2) := by decide +kernel
theorem eP_utter_91 : decode prog_2_method_14_code 91 = .ok (.iconst 5, 1) := by decide +kernel
theorem eP_utter_92 : decode prog_2_method_14_code 92 = .ok (.iaload, 1) := by decide +kernel
theorem eP_utter_93 : decode prog_2_method_14_code 93 = .ok (.aload 6, 2) := by decide +kernel
theorem eP_utter_95 : decode prog_2_method_14_code 95 = .ok (.iconst 0, 1) := by decide +kernel
theorem eP_utter_96 : decode prog_2_method_14_code 96 = .ok (.iaload, 1) := by decide +kernel
theorem eP_utter_97 : decode prog_2_method_14_code 97 = .ok (.invokestatic 66, 3) := by decide +kernel
theorem eP_utter_100 : decode prog_2_method_14_code 100 = .ok (.iadd, 1) := by decide +kernel
theorem eP_utter_101 : decode prog_2_method_14_code 101 = .ok (.invokestatic 69, 3) := by decide +kernel
theorem eP_utter_104 : decode prog_2_method_14_code 104 = .ok (.iastore, 1) := by decide +kernel
theorem eP_utter_105 : decode prog_2_method_14_code 105 = .ok (.iload 4, 2) := by decide +kernel
theorem eP_utter_107 : decode prog_2_method_14_code 107 = .ok (.iconst 1, 1) := by decide +kernel
theorem eP_utter_108 : decode prog_2_method_14_code 108 = .ok (.iload 5, 2) := by decide +kernel
theorem eP_utter_110 : decode prog_2_method_14_code 110 = .ok (.ishl, 1) := by decide +kernel
theorem eP_utter_111 : decode prog_2_method_14_code 111 = .ok (.ior, 1) := by decide +kernel
theorem eP_utter_112 : decode prog_2_method_14_code 112 = .ok (.istore 4, 2) := by decide +kernel
theorem eP_utter_114 : decode prog_2_method_14_code 114 = .ok (.iinc 5 1, 3) := by decide +kernel
theorem eP_utter_117 : decode prog_2_method_14_code 117 = .ok (.goto (-94), 3) := by decide +kernel
theorem eP_utter_120 : decode prog_2_method_14_code 120 = .ok (.iload 4, 2) := by decide +kernel
theorem eP_utter_122 : decode prog_2_method_14_code 122 = .ok (.ireturn, 1) := by decide +kernel
theorem eP_onDuty_0 : decode prog_2_method_9_code 0 = .ok (.iload_n 1, 1) := by decide +kernel
theorem eP_onDuty_1 : decode prog_2_method_9_code 1 = .ok (.iload_n 2, 1) := by decide +kernel
theorem eP_onDuty_2 : decode prog_2_method_9_code 2 = .ok (.invokestatic 40, 3) := by decide +kernel
theorem eP_onDuty_5 : decode prog_2_method_9_code 5 = .ok (.istore_n 3, 1) := by decide +kernel
theorem eP_onDuty_6 : decode prog_2_method_9_code 6 = .ok (.iload_n 1, 1) := by decide +kernel
theorem eP_onDuty_7 : decode prog_2_method_9_code 7 = .ok (.iload_n 2, 1) := by decide +kernel
theorem eP_onDuty_8 : decode prog_2_method_9_code 8 = .ok (.invokestatic 43, 3) := by decide +kernel
theorem eP_onDuty_11 : decode prog_2_method_9_code 11 = .ok (.istore 4, 2) := by decide +kernel
theorem eP_onDuty_13 : decode prog_2_method_9_code 13 = .ok (.iconst 0, 1) := by decide +kernel
theorem eP_onDuty_14 : decode prog_2_method_9_code 14 = .ok (.istore 5, 2) := by decide +kernel
theorem eP_onDuty_16 : decode prog_2_method_9_code 16 = .ok (.iconst 0, 1) := by decide +kernel
theorem eP_onDuty_17 : decode prog_2_method_9_code 17 = .ok (.istore 6, 2) := by decide +kernel
theorem eP_onDuty_19 : decode prog_2_method_9_code 19 = .ok (.iload 6, 2) := by decide +kernel
theorem eP_onDuty_21 : decode prog_2_method_9_code 21 = .ok (.aload_n 0, 1) := by decide +kernel
theorem eP_onDuty_22 : decode prog_2_method_9_code 22 = .ok (.getfield 19, 3) := by decide +kernel
theorem eP_onDuty_25 : decode prog_2_method_9_code 25 = .ok (.if_icmp .ge 46, 3) := by decide +kernel
theorem eP_onDuty_28 : decode prog_2_method_9_code 28 = .ok (.aload_n 0, 1) := by decide +kernel
theorem eP_onDuty_29 : decode prog_2_method_9_code 29 = .ok (.aload_n 0, 1) := by decide +kernel
theorem eP_onDuty_30 : decode prog_2_method_9_code 30 = .ok (.getfield 24, 3) := by decide +kernel
theorem eP_onDuty_33 : decode prog_2_method_9_code 33 = .ok (.iload 6, 2) := by decide +kernel
theorem eP_onDuty_35 : decode prog_2_method_9_code 35 = .ok (.aaload, 1) := by decide +kernel
theorem eP_onDuty_36 : decode prog_2_method_9_code 36 = .ok (.iconst 0, 1) := by decide +kernel
theorem eP_onDuty_37 : decode prog_2_method_9_code 37 = .ok (.iaload, 1) := by decide +kernel
theorem eP_onDuty_38 : decode prog_2_method_9_code 38 = .ok (.aload_n 0, 1) := by decide +kernel
theorem eP_onDuty_39 : decode prog_2_method_9_code 39 = .ok (.getfield 24, 3) := by decide +kernel
theorem eP_onDuty_42 : decode prog_2_method_9_code 42 = .ok (.iload 6, 2) := by decide +kernel
theorem eP_onDuty_44 : decode prog_2_method_9_code 44 = .ok (.aaload, 1) := by decide +kernel
theorem eP_onDuty_45 : decode prog_2_method_9_code 45 = .ok (.iconst 3, 1) := by decide +kernel
theorem eP_onDuty_46 : decode prog_2_method_9_code 46 = .ok (.iaload, 1) := by decide +kernel
theorem eP_onDuty_47 : decode prog_2_method_9_code 47 = .ok (.iload_n 3, 1) := by decide +kernel
theorem eP_onDuty_48 : decode prog_2_method_9_code 48 = .ok (.iload 4, 2) := by decide +kernel
theorem eP_onDuty_50 : decode prog_2_method_9_code 50 = .ok (.invokevirtual 46, 3) := by decide +kernel
theorem eP_onDuty_53 : decode prog_2_method_9_code 53 = .ok (.ifCond .eq 12, 3) := by decide +kernel
theorem eP_onDuty_56 : decode prog_2_method_9_code 56 = .ok (.iload 5, 2) := by decide +kernel
theorem eP_onDuty_58 : decode prog_2_method_9_code 58 = .ok (.iconst 1, 1) := by decide +kernel
theorem eP_onDuty_59 : decode prog_2_method_9_code 59 = .ok (.iload 6, 2) := by decide +kernel
theorem eP_onDuty_61 : decode prog_2_method_9_code 61 = .ok (.ishl, 1) := by decide +kernel
theorem eP_onDuty_62 : decode prog_2_method_9_code 62 = .ok (.ior, 1) := by decide +kernel
theorem eP_onDuty_63 : decode prog_2_method_9_code 63 = .ok (.istore 5, 2) := by decide +kernel
theorem eP_onDuty_65 : decode prog_2_method_9_code 65 = .ok (.iinc 6 1, 3) := by decide +kernel
theorem eP_onDuty_68 : decode prog_2_method_9_code 68 = .ok (.goto (-49), 3) := by decide +kernel
theorem eP_onDuty_71 : decode prog_2_method_9_code 71 = .ok (.iload 5, 2) := by decide +kernel
theorem eP_onDuty_73 : decode prog_2_method_9_code 73 = .ok (.ireturn, 1) := by decide +kernel
theorem eW_quarterOf_0 : decode prog_1_method_54_code 0 = .ok (.iload_n 1, 1) := by decide +kernel
theorem eW_quarterOf_1 : decode prog_1_method_54_code 1 = .ok (.iconst 1, 1) := by decide +kernel
theorem eW_quarterOf_2 : decode prog_1_method_54_code 2 = .ok (.if_icmp .ge 7, 3) := by decide +kernel
theorem eW_quarterOf_5 : decode prog_1_method_54_code 5 = .ok (.iconst 0, 1) := by decide +kernel
theorem eW_quarterOf_6 : decode prog_1_method_54_code 6 = .ok (.goto 8, 3) := by decide +kernel
theorem eW_quarterOf_9 : decode prog_1_method_54_code 9 = .ok (.iload_n 0, 1) := by decide +kernel
theorem eW_quarterOf_10 : decode prog_1_method_54_code 10 = .ok (.iload_n 1, 1) := by decide +kernel
theorem eW_quarterOf_11 : decode prog_1_method_54_code 11 = .ok (.idiv, 1) := by decide +kernel
theorem eW_quarterOf_12 : decode prog_1_method_54_code 12 = .ok (.iconst 4, 1) := by decide +kernel
theorem eW_quarterOf_13 : decode prog_1_method_54_code 13 = .ok (.irem, 1) := by decide +kernel
theorem eW_quarterOf_14 : decode prog_1_method_54_code 14 = .ok (.ireturn, 1) := by decide +kernel
theorem eW_restOf_0 : decode prog_1_method_55_code 0 = .ok (.iload_n 1, 1) := by decide +kernel
theorem eW_restOf_1 : decode prog_1_method_55_code 1 = .ok (.iconst 1, 1) := by decide +kernel
theorem eW_restOf_2 : decode prog_1_method_55_code 2 = .ok (.if_icmp .ge 7, 3) := by decide +kernel
theorem eW_restOf_5 : decode prog_1_method_55_code 5 = .ok (.iconst 0, 1) := by decide +kernel
theorem eW_restOf_6 : decode prog_1_method_55_code 6 = .ok (.goto 6, 3) := by decide +kernel
theorem eW_restOf_9 : decode prog_1_method_55_code 9 = .ok (.iload_n 0, 1) := by decide +kernel
theorem eW_restOf_10 : decode prog_1_method_55_code 10 = .ok (.iload_n 1, 1) := by decide +kernel
theorem eW_restOf_11 : decode prog_1_method_55_code 11 = .ok (.irem, 1) := by decide +kernel
theorem eW_restOf_12 : decode prog_1_method_55_code 12 = .ok (.ireturn, 1) := by decide +kernel
theorem eP_listens_0 : decode prog_2_method_7_code 0 = .ok (.iload 4, 2) := by decide +kernel
theorem eP_listens_2 : decode prog_2_method_7_code 2 = .ok (.aload_n 0, 1) := by decide +kernel
theorem eP_listens_3 : decode prog_2_method_7_code 3 = .ok (.getfield 15, 3) := by decide +kernel
theorem eP_listens_6 : decode prog_2_method_7_code 6 = .ok (.iconst 1, 1) := by decide +kernel
theorem eP_listens_7 : decode prog_2_method_7_code 7 = .ok (.iaload, 1) := by decide +kernel
theorem eP_listens_8 : decode prog_2_method_7_code 8 = .ok (.if_icmp .lt 7, 3) := by decide +kernel
theorem eP_listens_11 : decode prog_2_method_7_code 11 = .ok (.iconst 1, 1) := by decide +kernel
theorem eP_listens_12 : decode prog_2_method_7_code 12 = .ok (.goto 4, 3) := by decide +kernel
theorem eP_listens_15 : decode prog_2_method_7_code 15 = .ok (.iconst 0, 1) := by decide +kernel
theorem eP_listens_16 : decode prog_2_method_7_code 16 = .ok (.istore 5, 2) := by decide +kernel
theorem eP_listens_18 : decode prog_2_method_7_code 18 = .ok (.iload_n 3, 1) := by decide +kernel
theorem eP_listens_19 : decode prog_2_method_7_code 19 = .ok (.iload_n 2, 1) := by decide +kernel
theorem eP_listens_20 : decode prog_2_method_7_code 20 = .ok (.if_icmp .ne 12, 3) := by decide +kernel
theorem eP_listens_23 : decode prog_2_method_7_code 23 = .ok (.iload 5, 2) := by decide +kernel
theorem eP_listens_25 : decode prog_2_method_7_code 25 = .ok (.ifCond .eq 7, 3) := by decide +kernel
theorem eP_listens_28 : decode prog_2_method_7_code 28 = .ok (.iconst 1, 1) := by decide +kernel
theorem eP_listens_29 : decode prog_2_method_7_code 29 = .ok (.goto 4, 3) := by decide +kernel
theorem eP_listens_32 : decode prog_2_method_7_code 32 = .ok (.iconst 0, 1) := by decide +kernel
theorem eP_listens_33 : decode prog_2_method_7_code 33 = .ok (.istore 6, 2) := by decide +kernel
theorem eP_listens_35 : decode prog_2_method_7_code 35 = .ok (.aload_n 0, 1) := by decide +kernel
theorem eP_listens_36 : decode prog_2_method_7_code 36 = .ok (.getfield 15, 3) := by decide +kernel
theorem eP_listens_39 : decode prog_2_method_7_code 39 = .ok (.iconst 2, 1) := by decide +kernel
theorem eP_listens_40 : decode prog_2_method_7_code 40 = .ok (.iaload, 1) := by decide +kernel
theorem eP_listens_41 : decode prog_2_method_7_code 41 = .ok (.iconst 3, 1) := by decide +kernel
theorem eP_listens_42 : decode prog_2_method_7_code 42 = .ok (.if_icmp .ne 7, 3) := by decide +kernel
theorem eP_listens_45 : decode prog_2_method_7_code 45 = .ok (.iconst 1, 1) := by decide +kernel
theorem eP_listens_46 : decode prog_2_method_7_code 46 = .ok (.goto 4, 3) := by decide +kernel
theorem eP_listens_49 : decode prog_2_method_7_code 49 = .ok (.iconst 0, 1) := by decide +kernel
theorem eP_listens_50 : decode prog_2_method_7_code 50 = .ok (.istore 7, 2) := by decide +kernel
theorem eP_listens_52 : decode prog_2_method_7_code 52 = .ok (.iload_n 1, 1) := by decide +kernel
theorem eP_listens_53 : decode prog_2_method_7_code 53 = .ok (.tableswitch 97 1 5 #[35, 97, 97, 51, 72], 35) := by decide +kernel
theorem eP_listens_88 : decode prog_2_method_7_code 88 = .ok (.iload 6, 2) := by decide +kernel
theorem eP_listens_90 : decode prog_2_method_7_code 90 = .ok (.ifCond .eq 12, 3) := by decide +kernel
theorem eP_listens_93 : decode prog_2_method_7_code 93 = .ok (.iload 7, 2) := by decide +kernel
theorem eP_listens_95 : decode prog_2_method_7_code 95 = .ok (.ifCond .ne 7, 3) := by decide +kernel
theorem eP_listens_98 : decode prog_2_method_7_code 98 = .ok (.iconst 1, 1) := by decide +kernel
theorem eP_listens_99 : decode prog_2_method_7_code 99 = .ok (.goto 4, 3) := by decide +kernel
theorem eP_listens_102 : decode prog_2_method_7_code 102 = .ok (.iconst 0, 1) := by decide +kernel
theorem eP_listens_103 : decode prog_2_method_7_code 103 = .ok (.ireturn, 1) := by decide +kernel
theorem eP_listens_104 : decode prog_2_method_7_code 104 = .ok (.iload 7, 2) := by decide +kernel
theorem eP_listens_106 : decode prog_2_method_7_code 106 = .ok (.ifCond .eq 16, 3) := by decide +kernel
theorem eP_listens_109 : decode prog_2_method_7_code 109 = .ok (.iload 4, 2) := by decide +kernel
theorem eP_listens_111 : decode prog_2_method_7_code 111 = .ok (.ifCond .ne 7, 3) := by decide +kernel
theorem eP_listens_114 : decode prog_2_method_7_code 114 = .ok (.iconst 1, 1) := by decide +kernel
theorem eP_listens_115 : decode prog_2_method_7_code 115 = .ok (.goto 9, 3) := by decide +kernel
theorem eP_listens_118 : decode prog_2_method_7_code 118 = .ok (.iconst 0, 1) := by decide +kernel
theorem eP_listens_119 : decode prog_2_method_7_code 119 = .ok (.goto 5, 3) := by decide +kernel
theorem eP_listens_122 : decode prog_2_method_7_code 122 = .ok (.iload 6, 2) := by decide +kernel
theorem eP_listens_124 : decode prog_2_method_7_code 124 = .ok (.ireturn, 1) := by decide +kernel
theorem eP_listens_125 : decode prog_2_method_7_code 125 = .ok (.iload 6, 2) := by decide +kernel
theorem eP_listens_127 : decode prog_2_method_7_code 127 = .ok (.ifCond .ne 17, 3) := by decide +kernel
theorem eP_listens_130 : decode prog_2_method_7_code 130 = .ok (.iload_n 3, 1) := by decide +kernel
theorem eP_listens_131 : decode prog_2_method_7_code 131 = .ok (.iload_n 2, 1) := by decide +kernel
theorem eP_listens_132 : decode prog_2_method_7_code 132 = .ok (.iconst 1, 1) := by decide +kernel
theorem eP_listens_133 : decode prog_2_method_7_code 133 = .ok (.iadd, 1) := by decide +kernel
theorem eP_listens_134 : decode prog_2_method_7_code 134 = .ok (.iconst 4, 1) := by decide +kernel
theorem eP_listens_135 : decode prog_2_method_7_code 135 = .ok (.irem, 1) := by decide +kernel
theorem eP_listens_136 : decode prog_2_method_7_code 136 = .ok (.if_icmp .ne 12, 3) := by decide +kernel
theorem eP_listens_139 : decode prog_2_method_7_code 139 = .ok (.iload 5, 2) := by decide +kernel
theorem eP_listens_141 : decode prog_2_method_7_code 141 = .ok (.ifCond .eq 7, 3) := by decide +kernel
theorem eP_listens_144 : decode prog_2_method_7_code 144 = .ok (.iconst 1, 1) := by decide +kernel
theorem eP_listens_145 : decode prog_2_method_7_code 145 = .ok (.goto 4, 3) := by decide +kernel
theorem eP_listens_148 : decode prog_2_method_7_code 148 = .ok (.iconst 0, 1) := by decide +kernel
theorem eP_listens_149 : decode prog_2_method_7_code 149 = .ok (.ireturn, 1) := by decide +kernel
theorem eP_listens_150 : decode prog_2_method_7_code 150 = .ok (.iload 6, 2) := by decide +kernel
theorem eP_listens_152 : decode prog_2_method_7_code 152 = .ok (.ireturn, 1) := by decide +kernel
theorem eW_becomes_0 : decode prog_1_method_57_code 0 = .ok (.aload_n 0, 1) := by decide +kernel
theorem eW_becomes_1 : decode prog_1_method_57_code 1 = .ok (.iconst 0, 1) := by decide +kernel
theorem eW_becomes_2 : decode prog_1_method_57_code 2 = .ok (.iaload, 1) := by decide +kernel
theorem eW_becomes_3 : decode prog_1_method_57_code 3 = .ok (.tableswitch 58 2 5 #[29, 58, 33, 44], 29) := by decide +kernel
theorem eW_becomes_32 : decode prog_1_method_57_code 32 = .ok (.iload_n 1, 1) := by decide +kernel
theorem eW_becomes_33 : decode prog_1_method_57_code 33 = .ok (.iconst 1, 1) := by decide +kernel
theorem eW_becomes_34 : decode prog_1_method_57_code 34 = .ok (.ixor, 1) := by decide +kernel
theorem eW_becomes_35 : decode prog_1_method_57_code 35 = .ok (.ireturn, 1) := by decide +kernel
theorem eW_becomes_36 : decode prog_1_method_57_code 36 = .ok (.iload_n 1, 1) := by decide +kernel
theorem eW_becomes_37 : decode prog_1_method_57_code 37 = .ok (.iconst 4, 1) := by decide +kernel
theorem eW_becomes_38 : decode prog_1_method_57_code 38 = .ok (.if_icmp .ge 7, 3) := by decide +kernel
theorem eW_becomes_41 : decode prog_1_method_57_code 41 = .ok (.iconst (-1), 1) := by decide +kernel
theorem eW_becomes_42 : decode prog_1_method_57_code 42 = .ok (.goto 4, 3) := by decide +kernel
theorem eW_becomes_45 : decode prog_1_method_57_code 45 = .ok (.iload_n 1, 1) := by decide +kernel
theorem eW_becomes_46 : decode prog_1_method_57_code 46 = .ok (.ireturn, 1) := by decide +kernel
theorem eW_becomes_47 : decode prog_1_method_57_code 47 = .ok (.aload_n 0, 1) := by decide +kernel
theorem eW_becomes_48 : decode prog_1_method_57_code 48 = .ok (.iconst 5, 1) := by decide +kernel
theorem eW_becomes_49 : decode prog_1_method_57_code 49 = .ok (.iaload, 1) := by decide +kernel
theorem eW_becomes_50 : decode prog_1_method_57_code 50 = .ok (.ifCond .ne 7, 3) := by decide +kernel
theorem eW_becomes_53 : decode prog_1_method_57_code 53 = .ok (.iload_n 1, 1) := by decide +kernel
theorem eW_becomes_54 : decode prog_1_method_57_code 54 = .ok (.goto 6, 3) := by decide +kernel
theorem eW_becomes_57 : decode prog_1_method_57_code 57 = .ok (.iload_n 1, 1) := by decide +kernel
theorem eW_becomes_58 : decode prog_1_method_57_code 58 = .ok (.iconst 1, 1) := by decide +kernel
theorem eW_becomes_59 : decode prog_1_method_57_code 59 = .ok (.ixor, 1) := by decide +kernel
theorem eW_becomes_60 : decode prog_1_method_57_code 60 = .ok (.ireturn, 1) := by decide +kernel
theorem eW_becomes_61 : decode prog_1_method_57_code 61 = .ok (.iload_n 1, 1) := by decide +kernel
theorem eW_becomes_62 : decode prog_1_method_57_code 62 = .ok (.ireturn, 1) := by decide +kernel
theorem eP_isAwake_0 : decode prog_2_method_6_code 0 = .ok (.aload_n 1, 1) := by decide +kernel
theorem eP_isAwake_1 : decode prog_2_method_6_code 1 = .ok (.iconst 5, 1) := by decide +kernel
theorem eP_isAwake_2 : decode prog_2_method_6_code 2 = .ok (.iaload, 1) := by decide +kernel
theorem eP_isAwake_3 : decode prog_2_method_6_code 3 = .ok (.aload_n 0, 1) := by decide +kernel
theorem eP_isAwake_4 : decode prog_2_method_6_code 4 = .ok (.getfield 15, 3) := by decide +kernel
theorem eP_isAwake_7 : decode prog_2_method_6_code 7 = .ok (.iconst 3, 1) := by decide +kernel
theorem eP_isAwake_8 : decode prog_2_method_6_code 8 = .ok (.iaload, 1) := by decide +kernel
theorem eP_isAwake_9 : decode prog_2_method_6_code 9 = .ok (.if_icmp .ge 7, 3) := by decide +kernel
theorem eP_isAwake_12 : decode prog_2_method_6_code 12 = .ok (.iconst 1, 1) := by decide +kernel
theorem eP_isAwake_13 : decode prog_2_method_6_code 13 = .ok (.goto 4, 3) := by decide +kernel
theorem eP_isAwake_16 : decode prog_2_method_6_code 16 = .ok (.iconst 0, 1) := by decide +kernel
theorem eP_isAwake_17 : decode prog_2_method_6_code 17 = .ok (.ireturn, 1) := by decide +kernel
theorem eW_tires_0 : decode prog_1_method_56_code 0 = .ok (.iload_n 0, 1) := by decide +kernel
theorem eW_tires_1 : decode prog_1_method_56_code 1 = .ok (.tableswitch 31 3 5 #[27, 29, 27], 27) := by decide +kernel
theorem eW_tires_28 : decode prog_1_method_56_code 28 = .ok (.iconst 2, 1) := by decide +kernel
theorem eW_tires_29 : decode prog_1_method_56_code 29 = .ok (.ireturn, 1) := by decide +kernel
theorem eW_tires_30 : decode prog_1_method_56_code 30 = .ok (.iconst 0, 1) := by decide +kernel
theorem eW_tires_31 : decode prog_1_method_56_code 31 = .ok (.ireturn, 1) := by decide +kernel
theorem eW_tires_32 : decode prog_1_method_56_code 32 = .ok (.iconst 1, 1) := by decide +kernel
theorem eW_tires_33 : decode prog_1_method_56_code 33 = .ok (.ireturn, 1) := by decide +kernel
theorem eW_pass_0 : decode prog_1_method_10_code 0 = .ok (.iload_n 1, 1) := by decide +kernel
theorem eW_pass_1 : decode prog_1_method_10_code 1 = .ok (.iconst 1, 1) := by decide +kernel
theorem eW_pass_2 : decode prog_1_method_10_code 2 = .ok (.sipush 240, 3) := by decide +kernel
theorem eW_pass_5 : decode prog_1_method_10_code 5 = .ok (.invokestatic 82, 3) := by decide +kernel
theorem eW_pass_8 : decode prog_1_method_10_code 8 = .ok (.ifCond .ne 10, 3) := by decide +kernel
theorem eW_pass_11 : decode prog_1_method_10_code 11 = .ok (.aload_n 0, 1) := by decide +kernel
theorem eW_pass_12 : decode prog_1_method_10_code 12 = .ok (.ldc 51, 2) := by decide +kernel
theorem eW_pass_14 : decode prog_1_method_10_code 14 = .ok (.invokevirtual 52, 3) := by decide +kernel
theorem eW_pass_17 : decode prog_1_method_10_code 17 = .ok (.ireturn, 1) := by decide +kernel
theorem eW_pass_18 : decode prog_1_method_10_code 18 = .ok (.aload_n 0, 1) := by decide +kernel
theorem eW_pass_19 : decode prog_1_method_10_code 19 = .ok (.getfield 10, 3) := by decide +kernel
theorem eW_pass_22 : decode prog_1_method_10_code 22 = .ok (.getfield 86, 3) := by decide +kernel
theorem eW_pass_25 : decode prog_1_method_10_code 25 = .ok (.ldc 126, 2) := by decide +kernel
theorem eW_pass_27 : decode prog_1_method_10_code 27 = .ok (.iload_n 1, 1) := by decide +kernel
theorem eW_pass_28 : decode prog_1_method_10_code 28 = .ok (.isub, 1) := by decide +kernel
theorem eW_pass_29 : decode prog_1_method_10_code 29 = .ok (.if_icmp .le 10, 3) := by decide +kernel
theorem eW_pass_32 : decode prog_1_method_10_code 32 = .ok (.aload_n 0, 1) := by decide +kernel
theorem eW_pass_33 : decode prog_1_method_10_code 33 = .ok (.ldc 127, 2) := by decide +kernel
theorem eW_pass_35 : decode prog_1_method_10_code 35 = .ok (.invokevirtual 52, 3) := by decide +kernel
theorem eW_pass_38 : decode prog_1_method_10_code 38 = .ok (.ireturn, 1) := by decide +kernel
theorem eW_pass_39 : decode prog_1_method_10_code 39 = .ok (.iconst 0, 1) := by decide +kernel
theorem eW_pass_40 : decode prog_1_method_10_code 40 = .ok (.istore_n 2, 1) := by decide +kernel
theorem eW_pass_41 : decode prog_1_method_10_code 41 = .ok (.iload_n 2, 1) := by decide +kernel
theorem eW_pass_42 : decode prog_1_method_10_code 42 = .ok (.iload_n 1, 1) := by decide +kernel
theorem eW_pass_43 : decode prog_1_method_10_code 43 = .ok (.if_icmp .ge 16, 3) := by decide +kernel
theorem eW_pass_46 : decode prog_1_method_10_code 46 = .ok (.aload_n 0, 1) := by decide +kernel
theorem eW_pass_47 : decode prog_1_method_10_code 47 = .ok (.getfield 10, 3) := by decide +kernel
theorem eW_pass_50 : decode prog_1_method_10_code 50 = .ok (.invokevirtual 128, 3) := by decide +kernel
theorem eW_pass_53 : decode prog_1_method_10_code 53 = .ok (.iinc 2 1, 3) := by decide +kernel
theorem eW_pass_56 : decode prog_1_method_10_code 56 = .ok (.goto (-15), 3) := by decide +kernel
theorem eW_pass_59 : decode prog_1_method_10_code 59 = .ok (.aload_n 0, 1) := by decide +kernel
theorem eW_pass_60 : decode prog_1_method_10_code 60 = .ok (.getfield 10, 3) := by decide +kernel
theorem eW_pass_63 : decode prog_1_method_10_code 63 = .ok (.getfield 86, 3) := by decide +kernel
theorem eW_pass_66 : decode prog_1_method_10_code 66 = .ok (.ireturn, 1) := by decide +kernel
theorem eP_goOn_0 : decode prog_2_method_16_code 0 = .ok (.aload_n 0, 1) := by decide +kernel
theorem eP_goOn_1 : decode prog_2_method_16_code 1 = .ok (.dup, 1) := by decide +kernel
theorem eP_goOn_2 : decode prog_2_method_16_code 2 = .ok (.getfield 9, 3) := by decide +kernel
theorem eP_goOn_5 : decode prog_2_method_16_code 5 = .ok (.iconst 1, 1) := by decide +kernel
theorem eP_goOn_6 : decode prog_2_method_16_code 6 = .ok (.iadd, 1) := by decide +kernel
theorem eP_goOn_7 : decode prog_2_method_16_code 7 = .ok (.putfield 9, 3) := by decide +kernel
theorem eP_goOn_10 : decode prog_2_method_16_code 10 = .ok (.aload_n 0, 1) := by decide +kernel
theorem eP_goOn_11 : decode prog_2_method_16_code 11 = .ok (.getfield 15, 3) := by decide +kernel
theorem eP_goOn_14 : decode prog_2_method_16_code 14 = .ok (.iconst 0, 1) := by decide +kernel
theorem eP_goOn_15 : decode prog_2_method_16_code 15 = .ok (.iaload, 1) := by decide +kernel
theorem eP_goOn_16 : decode prog_2_method_16_code 16 = .ok (.istore_n 1, 1) := by decide +kernel
theorem eP_goOn_17 : decode prog_2_method_16_code 17 = .ok (.aload_n 0, 1) := by decide +kernel
theorem eP_goOn_18 : decode prog_2_method_16_code 18 = .ok (.getfield 9, 3) := by decide +kernel
theorem eP_goOn_21 : decode prog_2_method_16_code 21 = .ok (.iload_n 1, 1) := by decide +kernel
theorem eP_goOn_22 : decode prog_2_method_16_code 22 = .ok (.invokestatic 43, 3) := by decide +kernel
theorem eP_goOn_25 : decode prog_2_method_16_code 25 = .ok (.ifCond .eq 4, 3) := by decide +kernel
theorem eP_goOn_28 : decode prog_2_method_16_code 28 = .ok (.return_, 1) := by decide +kernel
theorem eP_goOn_29 : decode prog_2_method_16_code 29 = .ok (.iconst 0, 1) := by decide +kernel
theorem eP_goOn_30 : decode prog_2_method_16_code 30 = .ok (.istore_n 2, 1) := by decide +kernel
theorem eP_goOn_31 : decode prog_2_method_16_code 31 = .ok (.iload_n 2, 1) := by decide +kernel
theorem eP_goOn_32 : decode prog_2_method_16_code 32 = .ok (.aload_n 0, 1) := by decide +kernel
theorem eP_goOn_33 : decode prog_2_method_16_code 33 = .ok (.getfield 19, 3) := by decide +kernel
theorem eP_goOn_36 : decode prog_2_method_16_code 36 = .ok (.if_icmp .ge 37, 3) := by decide +kernel
theorem eP_goOn_39 : decode prog_2_method_16_code 39 = .ok (.aload_n 0, 1) := by decide +kernel
theorem eP_goOn_40 : decode prog_2_method_16_code 40 = .ok (.getfield 24, 3) := by decide +kernel
theorem eP_goOn_43 : decode prog_2_method_16_code 43 = .ok (.iload_n 2, 1) := by decide +kernel
theorem eP_goOn_44 : decode prog_2_method_16_code 44 = .ok (.aaload, 1) := by decide +kernel
theorem eP_goOn_45 : decode prog_2_method_16_code 45 = .ok (.iconst 3, 1) := by decide +kernel
theorem eP_goOn_46 : decode prog_2_method_16_code 46 = .ok (.iaload, 1) := by decide +kernel
theorem eP_goOn_47 : decode prog_2_method_16_code 47 = .ok (.aload_n 0, 1) := by decide +kernel
theorem eP_goOn_48 : decode prog_2_method_16_code 48 = .ok (.getfield 9, 3) := by decide +kernel
theorem eP_goOn_51 : decode prog_2_method_16_code 51 = .ok (.iload_n 1, 1) := by decide +kernel
theorem eP_goOn_52 : decode prog_2_method_16_code 52 = .ok (.invokestatic 40, 3) := by decide +kernel
theorem eP_goOn_55 : decode prog_2_method_16_code 55 = .ok (.if_icmp .ne 12, 3) := by decide +kernel
theorem eP_goOn_58 : decode prog_2_method_16_code 58 = .ok (.aload_n 0, 1) := by decide +kernel
theorem eP_goOn_59 : decode prog_2_method_16_code 59 = .ok (.getfield 24, 3) := by decide +kernel
theorem eP_goOn_62 : decode prog_2_method_16_code 62 = .ok (.iload_n 2, 1) := by decide +kernel
theorem eP_goOn_63 : decode prog_2_method_16_code 63 = .ok (.aaload, 1) := by decide +kernel
theorem eP_goOn_64 : decode prog_2_method_16_code 64 = .ok (.iconst 5, 1) := by decide +kernel
theorem eP_goOn_65 : decode prog_2_method_16_code 65 = .ok (.iconst 0, 1) := by decide +kernel
theorem eP_goOn_66 : decode prog_2_method_16_code 66 = .ok (.iastore, 1) := by decide +kernel
theorem eP_goOn_67 : decode prog_2_method_16_code 67 = .ok (.iinc 2 1, 3) := by decide +kernel
theorem eP_goOn_70 : decode prog_2_method_16_code 70 = .ok (.goto (-39), 3) := by decide +kernel
theorem eP_goOn_73 : decode prog_2_method_16_code 73 = .ok (.return_, 1) := by decide +kernel
theorem eW_speak_0 : decode prog_1_method_11_code 0 = .ok (.iload_n 1, 1) := by decide +kernel
theorem eW_speak_1 : decode prog_1_method_11_code 1 = .ok (.invokestatic 63, 3) := by decide +kernel
theorem eW_speak_4 : decode prog_1_method_11_code 4 = .ok (.ifCond .eq 10, 3) := by decide +kernel
theorem eW_speak_7 : decode prog_1_method_11_code 7 = .ok (.iload_n 2, 1) := by decide +kernel
theorem eW_speak_8 : decode prog_1_method_11_code 8 = .ok (.invokestatic 131, 3) := by decide +kernel
theorem eW_speak_11 : decode prog_1_method_11_code 11 = .ok (.ifCond .ne 10, 3) := by decide +kernel
theorem eW_speak_14 : decode prog_1_method_11_code 14 = .ok (.aload_n 0, 1) := by decide +kernel
theorem eW_speak_15 : decode prog_1_method_11_code 15 = .ok (.ldc 51, 2) := by decide +kernel
theorem eW_speak_17 : decode prog_1_method_11_code 17 = .ok (.invokevirtual 52, 3) := by decide +kernel
theorem eW_speak_20 : decode prog_1_method_11_code 20 = .ok (.ireturn, 1) := by decide +kernel
theorem eW_speak_21 : decode prog_1_method_11_code 21 = .ok (.aload_n 0, 1) := by decide +kernel
theorem eW_speak_22 : decode prog_1_method_11_code 22 = .ok (.getfield 10, 3) := by decide +kernel
theorem eW_speak_25 : decode prog_1_method_11_code 25 = .ok (.getfield 86, 3) := by decide +kernel
theorem eW_speak_28 : decode prog_1_method_11_code 28 = .ok (.ldc 126, 2) := by decide +kernel
theorem eW_speak_30 : decode prog_1_method_11_code 30 = .ok (.iload_n 2, 1) := by decide +kernel
theorem eW_speak_31 : decode prog_1_method_11_code 31 = .ok (.invokestatic 134, 3) := by decide +kernel
theorem eW_speak_34 : decode prog_1_method_11_code 34 = .ok (.isub, 1) := by decide +kernel
theorem eW_speak_35 : decode prog_1_method_11_code 35 = .ok (.if_icmp .le 10, 3) := by decide +kernel
theorem eW_speak_38 : decode prog_1_method_11_code 38 = .ok (.aload_n 0, 1) := by decide +kernel
theorem eW_speak_39 : decode prog_1_method_11_code 39 = .ok (.ldc 127, 2) := by decide +kernel
theorem eW_speak_41 : decode prog_1_method_11_code 41 = .ok (.invokevirtual 52, 3) := by decide +kernel
theorem eW_speak_44 : decode prog_1_method_11_code 44 = .ok (.ireturn, 1) := by decide +kernel
theorem eW_speak_45 : decode prog_1_method_11_code 45 = .ok (.aload_n 0, 1) := by decide +kernel
theorem eW_speak_46 : decode prog_1_method_11_code 46 = .ok (.getfield 10, 3) := by decide +kernel
theorem eW_speak_49 : decode prog_1_method_11_code 49 = .ok (.iload_n 1, 1) := by decide +kernel
theorem eW_speak_50 : decode prog_1_method_11_code 50 = .ok (.iload_n 2, 1) := by decide +kernel
theorem eW_speak_51 : decode prog_1_method_11_code 51 = .ok (.invokevirtual 139, 3) := by decide +kernel
theorem eW_speak_54 : decode prog_1_method_11_code 54 = .ok (.ireturn, 1) := by decide +kernel
theorem eW_isSetOfWords_0 : decode prog_1_method_50_code 0 = .ok (.iload_n 0, 1) := by decide +kernel
theorem eW_isSetOfWords_1 : decode prog_1_method_50_code 1 = .ok (.iconst 0, 1) := by decide +kernel
theorem eW_isSetOfWords_2 : decode prog_1_method_50_code 2 = .ok (.ldc_w 257, 3) := by decide +kernel
theorem eW_isSetOfWords_5 : decode prog_1_method_50_code 5 = .ok (.invokestatic 82, 3) := by decide +kernel
theorem eW_isSetOfWords_8 : decode prog_1_method_50_code 8 = .ok (.ireturn, 1) := by decide +kernel
theorem eJInt_bitCount_0 : decode prog_7_method_49_code 0 = .ok (.iload_n 0, 1) := by decide +kernel
theorem eJInt_bitCount_1 : decode prog_7_method_49_code 1 = .ok (.iload_n 0, 1) := by decide +kernel
theorem eJInt_bitCount_2 : decode prog_7_method_49_code 2 = .ok (.iconst 1, 1) := by decide +kernel
theorem eJInt_bitCount_3 : decode prog_7_method_49_code 3 = .ok (.iushr, 1) := by decide +kernel
theorem eJInt_bitCount_4 : decode prog_7_method_49_code 4 = .ok (.ldc_w 265, 3) := by decide +kernel
theorem eJInt_bitCount_7 : decode prog_7_method_49_code 7 = .ok (.iand, 1) := by decide +kernel
theorem eJInt_bitCount_8 : decode prog_7_method_49_code 8 = .ok (.isub, 1) := by decide +kernel
theorem eJInt_bitCount_9 : decode prog_7_method_49_code 9 = .ok (.istore_n 0, 1) := by decide +kernel
theorem eJInt_bitCount_10 : decode prog_7_method_49_code 10 = .ok (.iload_n 0, 1) := by decide +kernel
theorem eJInt_bitCount_11 : decode prog_7_method_49_code 11 = .ok (.ldc_w 266, 3) := by decide +kernel
theorem eJInt_bitCount_14 : decode prog_7_method_49_code 14 = .ok (.iand, 1) := by decide +kernel
theorem eJInt_bitCount_15 : decode prog_7_method_49_code 15 = .ok (.iload_n 0, 1) := by decide +kernel
theorem eJInt_bitCount_16 : decode prog_7_method_49_code 16 = .ok (.iconst 2, 1) := by decide +kernel
theorem eJInt_bitCount_17 : decode prog_7_method_49_code 17 = .ok (.iushr, 1) := by decide +kernel
theorem eJInt_bitCount_18 : decode prog_7_method_49_code 18 = .ok (.ldc_w 266, 3) := by decide +kernel
theorem eJInt_bitCount_21 : decode prog_7_method_49_code 21 = .ok (.iand, 1) := by decide +kernel
theorem eJInt_bitCount_22 : decode prog_7_method_49_code 22 = .ok (.iadd, 1) := by decide +kernel
theorem eJInt_bitCount_23 : decode prog_7_method_49_code 23 = .ok (.istore_n 0, 1) := by decide +kernel
theorem eJInt_bitCount_24 : decode prog_7_method_49_code 24 = .ok (.iload_n 0, 1) := by decide +kernel
theorem eJInt_bitCount_25 : decode prog_7_method_49_code 25 = .ok (.iload_n 0, 1) := by decide +kernel
theorem eJInt_bitCount_26 : decode prog_7_method_49_code 26 = .ok (.iconst 4, 1) := by decide +kernel
theorem eJInt_bitCount_27 : decode prog_7_method_49_code 27 = .ok (.iushr, 1) := by decide +kernel
theorem eJInt_bitCount_28 : decode prog_7_method_49_code 28 = .ok (.iadd, 1) := by decide +kernel
theorem eJInt_bitCount_29 : decode prog_7_method_49_code 29 = .ok (.ldc_w 267, 3) := by decide +kernel
theorem eJInt_bitCount_32 : decode prog_7_method_49_code 32 = .ok (.iand, 1) := by decide +kernel
theorem eJInt_bitCount_33 : decode prog_7_method_49_code 33 = .ok (.istore_n 0, 1) := by decide +kernel
theorem eJInt_bitCount_34 : decode prog_7_method_49_code 34 = .ok (.iload_n 0, 1) := by decide +kernel
theorem eJInt_bitCount_35 : decode prog_7_method_49_code 35 = .ok (.iload_n 0, 1) := by decide +kernel
theorem eJInt_bitCount_36 : decode prog_7_method_49_code 36 = .ok (.bipush 8, 2) := by decide +kernel
theorem eJInt_bitCount_38 : decode prog_7_method_49_code 38 = .ok (.iushr, 1) := by decide +kernel
theorem eJInt_bitCount_39 : decode prog_7_method_49_code 39 = .ok (.iadd, 1) := by decide +kernel
theorem eJInt_bitCount_40 : decode prog_7_method_49_code 40 = .ok (.istore_n 0, 1) := by decide +kernel
theorem eJInt_bitCount_41 : decode prog_7_method_49_code 41 = .ok (.iload_n 0, 1) := by decide +kernel
theorem eJInt_bitCount_42 : decode prog_7_method_49_code 42 = .ok (.iload_n 0, 1) := by decide +kernel
theorem eJInt_bitCount_43 : decode prog_7_method_49_code 43 = .ok (.bipush 16, 2) := by decide +kernel
theorem eJInt_bitCount_45 : decode prog_7_method_49_code 45 = .ok (.iushr, 1) := by decide +kernel
theorem eJInt_bitCount_46 : decode prog_7_method_49_code 46 = .ok (.iadd, 1) := by decide +kernel
theorem eJInt_bitCount_47 : decode prog_7_method_49_code 47 = .ok (.istore_n 0, 1) := by decide +kernel
theorem eJInt_bitCount_48 : decode prog_7_method_49_code 48 = .ok (.iload_n 0, 1) := by decide +kernel
theorem eJInt_bitCount_49 : decode prog_7_method_49_code 49 = .ok (.bipush 63, 2) := by decide +kernel
theorem eJInt_bitCount_51 : decode prog_7_method_49_code 51 = .ok (.iand, 1) := by decide +kernel
theorem eJInt_bitCount_52 : decode prog_7_method_49_code 52 = .ok (.ireturn, 1) := by decide +kernel
theorem eP_utterAll_0 : decode prog_2_method_15_code 0 = .ok (.aload_n 0, 1) := by decide +kernel
theorem eP_utterAll_1 : decode prog_2_method_15_code 1 = .ok (.iload_n 1, 1) := by decide +kernel
theorem eP_utterAll_2 : decode prog_2_method_15_code 2 = .ok (.invokevirtual 74, 3) := by decide +kernel
theorem eP_utterAll_5 : decode prog_2_method_15_code 5 = .ok (.istore_n 3, 1) := by decide +kernel
theorem eP_utterAll_6 : decode prog_2_method_15_code 6 = .ok (.iconst 0, 1) := by decide +kernel
theorem eP_utterAll_7 : decode prog_2_method_15_code 7 = .ok (.istore 4, 2) := by decide +kernel
theorem eP_utterAll_9 : decode prog_2_method_15_code 9 = .ok (.aload_n 0, 1) := by decide +kernel
theorem eP_utterAll_10 : decode prog_2_method_15_code 10 = .ok (.iconst 0, 1) := by decide +kernel
theorem eP_utterAll_11 : decode prog_2_method_15_code 11 = .ok (.putfield 27, 3) := by decide +kernel
theorem eP_utterAll_14 : decode prog_2_method_15_code 14 = .ok (.iconst 0, 1) := by decide +kernel
theorem eP_utterAll_15 : decode prog_2_method_15_code 15 = .ok (.istore 5, 2) := by decide +kernel
theorem eP_utterAll_17 : decode prog_2_method_15_code 17 = .ok (.iload 5, 2) := by decide +kernel
theorem eP_utterAll_19 : decode prog_2_method_15_code 19 = .ok (.bipush 16, 2) := by decide +kernel
theorem eP_utterAll_21 : decode prog_2_method_15_code 21 = .ok (.if_icmp .ge 64, 3) := by decide +kernel
theorem eP_utterAll_24 : decode prog_2_method_15_code 24 = .ok (.iload_n 2, 1) := by decide +kernel
theorem eP_utterAll_25 : decode prog_2_method_15_code 25 = .ok (.iload 5, 2) := by decide +kernel
theorem eP_utterAll_27 : decode prog_2_method_15_code 27 = .ok (.ishr, 1) := by decide +kernel
theorem eP_utterAll_28 : decode prog_2_method_15_code 28 = .ok (.iconst 1, 1) := by decide +kernel
theorem eP_utterAll_29 : decode prog_2_method_15_code 29 = .ok (.iand, 1) := by decide +kernel
theorem eP_utterAll_30 : decode prog_2_method_15_code 30 = .ok (.iconst 1, 1) := by decide +kernel
theorem eP_utterAll_31 : decode prog_2_method_15_code 31 = .ok (.if_icmp .ne 48, 3) := by decide +kernel
theorem eP_utterAll_34 : decode prog_2_method_15_code 34 = .ok (.aload_n 0, 1) := by decide +kernel
theorem eP_utterAll_35 : decode prog_2_method_15_code 35 = .ok (.iload_n 3, 1) := by decide +kernel
theorem eP_utterAll_36 : decode prog_2_method_15_code 36 = .ok (.iload 5, 2) := by decide +kernel
theorem eP_utterAll_38 : decode prog_2_method_15_code 38 = .ok (.invokevirtual 77, 3) := by decide +kernel
theorem eP_utterAll_41 : decode prog_2_method_15_code 41 = .ok (.istore 6, 2) := by decide +kernel
theorem eP_utterAll_43 : decode prog_2_method_15_code 43 = .ok (.iload 4, 2) := by decide +kernel
theorem eP_utterAll_45 : decode prog_2_method_15_code 45 = .ok (.iload 6, 2) := by decide +kernel
theorem eP_utterAll_47 : decode prog_2_method_15_code 47 = .ok (.invokestatic 80, 3) := by decide +kernel
theorem eP_utterAll_50 : decode prog_2_method_15_code 50 = .ok (.iadd, 1) := by decide +kernel
theorem eP_utterAll_51 : decode prog_2_method_15_code 51 = .ok (.istore 4, 2) := by decide +kernel
theorem eP_utterAll_53 : decode prog_2_method_15_code 53 = .ok (.aload_n 0, 1) := by decide +kernel
theorem eP_utterAll_54 : decode prog_2_method_15_code 54 = .ok (.dup, 1) := by decide +kernel
theorem eP_utterAll_55 : decode prog_2_method_15_code 55 = .ok (.getfield 27, 3) := by decide +kernel
theorem eP_utterAll_58 : decode prog_2_method_15_code 58 = .ok (.iload 6, 2) := by decide +kernel
theorem eP_utterAll_60 : decode prog_2_method_15_code 60 = .ok (.ifCond .ne 10, 3) := by decide +kernel
theorem eP_utterAll_63 : decode prog_2_method_15_code 63 = .ok (.iconst 1, 1) := by decide +kernel
theorem eP_utterAll_64 : decode prog_2_method_15_code 64 = .ok (.iload 5, 2) := by decide +kernel
theorem eP_utterAll_66 : decode prog_2_method_15_code 66 = .ok (.ishl, 1) := by decide +kernel
theorem eP_utterAll_67 : decode prog_2_method_15_code 67 = .ok (.goto 4, 3) := by decide +kernel
theorem eP_utterAll_70 : decode prog_2_method_15_code 70 = .ok (.iconst 0, 1) := by decide +kernel
theorem eP_utterAll_71 : decode prog_2_method_15_code 71 = .ok (.ior, 1) := by decide +kernel
theorem eP_utterAll_72 : decode prog_2_method_15_code 72 = .ok (.putfield 27, 3) := by decide +kernel
theorem eP_utterAll_75 : decode prog_2_method_15_code 75 = .ok (.aload_n 0, 1) := by decide +kernel
theorem eP_utterAll_76 : decode prog_2_method_15_code 76 = .ok (.invokevirtual 85, 3) := by decide +kernel
theorem eP_utterAll_79 : decode prog_2_method_15_code 79 = .ok (.iinc 5 1, 3) := by decide +kernel
theorem eP_utterAll_82 : decode prog_2_method_15_code 82 = .ok (.goto (-65), 3) := by decide +kernel
theorem eP_utterAll_85 : decode prog_2_method_15_code 85 = .ok (.iload 4, 2) := by decide +kernel
theorem eP_utterAll_87 : decode prog_2_method_15_code 87 = .ok (.ireturn, 1) := by decide +kernel
theorem eW_duty_0 : decode prog_1_method_13_code 0 = .ok (.iload_n 1, 1) := by decide +kernel
theorem eW_duty_1 : decode prog_1_method_13_code 1 = .ok (.iconst 0, 1) := by decide +kernel
theorem eW_duty_2 : decode prog_1_method_13_code 2 = .ok (.ldc 126, 2) := by decide +kernel
theorem eW_duty_4 : decode prog_1_method_13_code 4 = .ok (.invokestatic 82, 3) := by decide +kernel
theorem eW_duty_7 : decode prog_1_method_13_code 7 = .ok (.ifCond .ne 10, 3) := by decide +kernel
theorem eW_duty_10 : decode prog_1_method_13_code 10 = .ok (.aload_n 0, 1) := by decide +kernel
theorem eW_duty_11 : decode prog_1_method_13_code 11 = .ok (.ldc 51, 2) := by decide +kernel
theorem eW_duty_13 : decode prog_1_method_13_code 13 = .ok (.invokevirtual 52, 3) := by decide +kernel
theorem eW_duty_16 : decode prog_1_method_13_code 16 = .ok (.ireturn, 1) := by decide +kernel
theorem eW_duty_17 : decode prog_1_method_13_code 17 = .ok (.aload_n 0, 1) := by decide +kernel
theorem eW_duty_18 : decode prog_1_method_13_code 18 = .ok (.getfield 10, 3) := by decide +kernel
theorem eW_duty_21 : decode prog_1_method_13_code 21 = .ok (.iload_n 1, 1) := by decide +kernel
theorem eW_duty_22 : decode prog_1_method_13_code 22 = .ok (.aload_n 0, 1) := by decide +kernel
theorem eW_duty_23 : decode prog_1_method_13_code 23 = .ok (.getfield 10, 3) := by decide +kernel
theorem eW_duty_26 : decode prog_1_method_13_code 26 = .ok (.getfield 56, 3) := by decide +kernel
theorem eW_duty_29 : decode prog_1_method_13_code 29 = .ok (.iconst 0, 1) := by decide +kernel
theorem eW_duty_30 : decode prog_1_method_13_code 30 = .ok (.iaload, 1) := by decide +kernel
theorem eW_duty_31 : decode prog_1_method_13_code 31 = .ok (.invokevirtual 145, 3) := by decide +kernel
theorem eW_duty_34 : decode prog_1_method_13_code 34 = .ok (.ireturn, 1) := by decide +kernel
theorem eW_now_0 : decode prog_1_method_14_code 0 = .ok (.iload_n 1, 1) := by decide +kernel
theorem eW_now_1 : decode prog_1_method_14_code 1 = .ok (.tableswitch 107 0 6 #[43, 51, 61, 71, 81, 91, 99], 43) := by decide +kernel
theorem eW_now_44 : decode prog_1_method_14_code 44 = .ok (.aload_n 0, 1) := by decide +kernel
theorem eW_now_45 : decode prog_1_method_14_code 45 = .ok (.getfield 10, 3) := by decide +kernel
theorem eW_now_48 : decode prog_1_method_14_code 48 = .ok (.getfield 86, 3) := by decide +kernel
theorem eW_now_51 : decode prog_1_method_14_code 51 = .ok (.ireturn, 1) := by decide +kernel
theorem eW_now_52 : decode prog_1_method_14_code 52 = .ok (.aload_n 0, 1) := by decide +kernel
theorem eW_now_53 : decode prog_1_method_14_code 53 = .ok (.getfield 10, 3) := by decide +kernel
theorem eW_now_56 : decode prog_1_method_14_code 56 = .ok (.getfield 56, 3) := by decide +kernel
theorem eW_now_59 : decode prog_1_method_14_code 59 = .ok (.iconst 0, 1) := by decide +kernel
theorem eW_now_60 : decode prog_1_method_14_code 60 = .ok (.iaload, 1) := by decide +kernel
theorem eW_now_61 : decode prog_1_method_14_code 61 = .ok (.ireturn, 1) := by decide +kernel
theorem eW_now_62 : decode prog_1_method_14_code 62 = .ok (.aload_n 0, 1) := by decide +kernel
theorem eW_now_63 : decode prog_1_method_14_code 63 = .ok (.getfield 10, 3) := by decide +kernel
theorem eW_now_66 : decode prog_1_method_14_code 66 = .ok (.getfield 56, 3) := by decide +kernel
theorem eW_now_69 : decode prog_1_method_14_code 69 = .ok (.iconst 1, 1) := by decide +kernel
theorem eW_now_70 : decode prog_1_method_14_code 70 = .ok (.iaload, 1) := by decide +kernel
theorem eW_now_71 : decode prog_1_method_14_code 71 = .ok (.ireturn, 1) := by decide +kernel
theorem eW_now_72 : decode prog_1_method_14_code 72 = .ok (.aload_n 0, 1) := by decide +kernel
theorem eW_now_73 : decode prog_1_method_14_code 73 = .ok (.getfield 10, 3) := by decide +kernel
theorem eW_now_76 : decode prog_1_method_14_code 76 = .ok (.getfield 56, 3) := by decide +kernel
theorem eW_now_79 : decode prog_1_method_14_code 79 = .ok (.iconst 2, 1) := by decide +kernel
theorem eW_now_80 : decode prog_1_method_14_code 80 = .ok (.iaload, 1) := by decide +kernel
theorem eW_now_81 : decode prog_1_method_14_code 81 = .ok (.ireturn, 1) := by decide +kernel
theorem eW_now_82 : decode prog_1_method_14_code 82 = .ok (.aload_n 0, 1) := by decide +kernel
theorem eW_now_83 : decode prog_1_method_14_code 83 = .ok (.getfield 10, 3) := by decide +kernel
theorem eW_now_86 : decode prog_1_method_14_code 86 = .ok (.getfield 56, 3) := by decide +kernel
theorem eW_now_89 : decode prog_1_method_14_code 89 = .ok (.iconst 3, 1) := by decide +kernel
theorem eW_now_90 : decode prog_1_method_14_code 90 = .ok (.iaload, 1) := by decide +kernel
theorem eW_now_91 : decode prog_1_method_14_code 91 = .ok (.ireturn, 1) := by decide +kernel
theorem eW_now_92 : decode prog_1_method_14_code 92 = .ok (.aload_n 0, 1) := by decide +kernel
theorem eW_now_93 : decode prog_1_method_14_code 93 = .ok (.getfield 10, 3) := by decide +kernel
theorem eW_now_96 : decode prog_1_method_14_code 96 = .ok (.invokevirtual 148, 3) := by decide +kernel
theorem eW_now_99 : decode prog_1_method_14_code 99 = .ok (.ireturn, 1) := by decide +kernel
theorem eW_now_100 : decode prog_1_method_14_code 100 = .ok (.aload_n 0, 1) := by decide +kernel
theorem eW_now_101 : decode prog_1_method_14_code 101 = .ok (.getfield 10, 3) := by decide +kernel
theorem eW_now_104 : decode prog_1_method_14_code 104 = .ok (.invokevirtual 152, 3) := by decide +kernel
theorem eW_now_107 : decode prog_1_method_14_code 107 = .ok (.ireturn, 1) := by decide +kernel
theorem eW_now_108 : decode prog_1_method_14_code 108 = .ok (.aload_n 0, 1) := by decide +kernel
theorem eW_now_109 : decode prog_1_method_14_code 109 = .ok (.ldc 51, 2) := by decide +kernel
theorem eW_now_111 : decode prog_1_method_14_code 111 = .ok (.invokevirtual 52, 3) := by decide +kernel
theorem eW_now_114 : decode prog_1_method_14_code 114 = .ok (.ireturn, 1) := by decide +kernel
theorem eP_wordsInFiles_0 : decode prog_2_method_17_code 0 = .ok (.iconst 0, 1) := by decide +kernel
theorem eP_wordsInFiles_1 : decode prog_2_method_17_code 1 = .ok (.istore_n 1, 1) := by decide +kernel
theorem eP_wordsInFiles_2 : decode prog_2_method_17_code 2 = .ok (.iconst 0, 1) := by decide +kernel
theorem eP_wordsInFiles_3 : decode prog_2_method_17_code 3 = .ok (.istore_n 2, 1) := by decide +kernel
theorem eP_wordsInFiles_4 : decode prog_2_method_17_code 4 = .ok (.iload_n 2, 1) := by decide +kernel
theorem eP_wordsInFiles_5 : decode prog_2_method_17_code 5 = .ok (.aload_n 0, 1) := by decide +kernel
theorem eP_wordsInFiles_6 : decode prog_2_method_17_code 6 = .ok (.getfield 19, 3) := by decide +kernel
theorem eP_wordsInFiles_9 : decode prog_2_method_17_code 9 = .ok (.if_icmp .ge 20, 3) := by decide +kernel
theorem eP_wordsInFiles_12 : decode prog_2_method_17_code 12 = .ok (.iload_n 1, 1) := by decide +kernel
theorem eP_wordsInFiles_13 : decode prog_2_method_17_code 13 = .ok (.aload_n 0, 1) := by decide +kernel
theorem eP_wordsInFiles_14 : decode prog_2_method_17_code 14 = .ok (.getfield 24, 3) := by decide +kernel
theorem eP_wordsInFiles_17 : decode prog_2_method_17_code 17 = .ok (.iload_n 2, 1) := by decide +kernel
theorem eP_wordsInFiles_18 : decode prog_2_method_17_code 18 = .ok (.aaload, 1) := by decide +kernel
theorem eP_wordsInFiles_19 : decode prog_2_method_17_code 19 = .ok (.iconst 4, 1) := by decide +kernel
theorem eP_wordsInFiles_20 : decode prog_2_method_17_code 20 = .ok (.iaload, 1) := by decide +kernel
theorem eP_wordsInFiles_21 : decode prog_2_method_17_code 21 = .ok (.ior, 1) := by decide +kernel
theorem eP_wordsInFiles_22 : decode prog_2_method_17_code 22 = .ok (.istore_n 1, 1) := by decide +kernel
theorem eP_wordsInFiles_23 : decode prog_2_method_17_code 23 = .ok (.iinc 2 1, 3) := by decide +kernel
theorem eP_wordsInFiles_26 : decode prog_2_method_17_code 26 = .ok (.goto (-22), 3) := by decide +kernel
theorem eP_wordsInFiles_29 : decode prog_2_method_17_code 29 = .ok (.iload_n 1, 1) := by decide +kernel
theorem eP_wordsInFiles_30 : decode prog_2_method_17_code 30 = .ok (.ireturn, 1) := by decide +kernel
theorem eP_tiredTogether_0 : decode prog_2_method_20_code 0 = .ok (.iconst 0, 1) := by decide +kernel
theorem eP_tiredTogether_1 : decode prog_2_method_20_code 1 = .ok (.istore_n 1, 1) := by decide +kernel
theorem eP_tiredTogether_2 : decode prog_2_method_20_code 2 = .ok (.iconst 0, 1) := by decide +kernel
theorem eP_tiredTogether_3 : decode prog_2_method_20_code 3 = .ok (.istore_n 2, 1) := by decide +kernel
theorem eP_tiredTogether_4 : decode prog_2_method_20_code 4 = .ok (.iload_n 2, 1) := by decide +kernel
theorem eP_tiredTogether_5 : decode prog_2_method_20_code 5 = .ok (.aload_n 0, 1) := by decide +kernel
theorem eP_tiredTogether_6 : decode prog_2_method_20_code 6 = .ok (.getfield 19, 3) := by decide +kernel
theorem eP_tiredTogether_9 : decode prog_2_method_20_code 9 = .ok (.if_icmp .ge 20, 3) := by decide +kernel
theorem eP_tiredTogether_12 : decode prog_2_method_20_code 12 = .ok (.iload_n 1, 1) := by decide +kernel
theorem eP_tiredTogether_13 : decode prog_2_method_20_code 13 = .ok (.aload_n 0, 1) := by decide +kernel
theorem eP_tiredTogether_14 : decode prog_2_method_20_code 14 = .ok (.getfield 24, 3) := by decide +kernel
theorem eP_tiredTogether_17 : decode prog_2_method_20_code 17 = .ok (.iload_n 2, 1) := by decide +kernel
theorem eP_tiredTogether_18 : decode prog_2_method_20_code 18 = .ok (.aaload, 1) := by decide +kernel
theorem eP_tiredTogether_19 : decode prog_2_method_20_code 19 = .ok (.iconst 5, 1) := by decide +kernel
theorem eP_tiredTogether_20 : decode prog_2_method_20_code 20 = .ok (.iaload, 1) := by decide +kernel
theorem eP_tiredTogether_21 : decode prog_2_method_20_code 21 = .ok (.iadd, 1) := by decide +kernel
theorem eP_tiredTogether_22 : decode prog_2_method_20_code 22 = .ok (.istore_n 1, 1) := by decide +kernel
theorem eP_tiredTogether_23 : decode prog_2_method_20_code 23 = .ok (.iinc 2 1, 3) := by decide +kernel
theorem eP_tiredTogether_26 : decode prog_2_method_20_code 26 = .ok (.goto (-22), 3) := by decide +kernel
theorem eP_tiredTogether_29 : decode prog_2_method_20_code 29 = .ok (.iload_n 1, 1) := by decide +kernel
theorem eP_tiredTogether_30 : decode prog_2_method_20_code 30 = .ok (.ireturn, 1) := by decide +kernel
theorem eW_safe_0 : decode prog_1_method_16_code 0 = .ok (.iload_n 1, 1) := by decide +kernel
theorem eW_safe_1 : decode prog_1_method_16_code 1 = .ok (.invokestatic 63, 3) := by decide +kernel
theorem eW_safe_4 : decode prog_1_method_16_code 4 = .ok (.ifCond .eq 13, 3) := by decide +kernel
theorem eW_safe_7 : decode prog_1_method_16_code 7 = .ok (.iload_n 2, 1) := by decide +kernel
theorem eW_safe_8 : decode prog_1_method_16_code 8 = .ok (.iconst 1, 1) := by decide +kernel
theorem eW_safe_9 : decode prog_1_method_16_code 9 = .ok (.bipush 30, 2) := by decide +kernel
theorem eW_safe_11 : decode prog_1_method_16_code 11 = .ok (.invokestatic 82, 3) := by decide +kernel
theorem eW_safe_14 : decode prog_1_method_16_code 14 = .ok (.ifCond .ne 10, 3) := by decide +kernel
theorem eW_safe_17 : decode prog_1_method_16_code 17 = .ok (.aload_n 0, 1) := by decide +kernel
theorem eW_safe_18 : decode prog_1_method_16_code 18 = .ok (.ldc 51, 2) := by decide +kernel
theorem eW_safe_20 : decode prog_1_method_16_code 20 = .ok (.invokevirtual 52, 3) := by decide +kernel
theorem eW_safe_23 : decode prog_1_method_16_code 23 = .ok (.ireturn, 1) := by decide +kernel
theorem eW_safe_24 : decode prog_1_method_16_code 24 = .ok (.aload_n 0, 1) := by decide +kernel
theorem eW_safe_25 : decode prog_1_method_16_code 25 = .ok (.sipush 240, 3) := by decide +kernel
theorem eW_safe_28 : decode prog_1_method_16_code 28 = .ok (.iload_n 2, 1) := by decide +kernel
theorem eW_safe_29 : decode prog_1_method_16_code 29 = .ok (.iadd, 1) := by decide +kernel
theorem eW_safe_30 : decode prog_1_method_16_code 30 = .ok (.invokevirtual 158, 3) := by decide +kernel
theorem eW_safe_33 : decode prog_1_method_16_code 33 = .ok (.aload_n 0, 1) := by decide +kernel
theorem eW_safe_34 : decode prog_1_method_16_code 34 = .ok (.iload_n 1, 1) := by decide +kernel
theorem eW_safe_35 : decode prog_1_method_16_code 35 = .ok (.iload_n 2, 1) := by decide +kernel
theorem eW_safe_36 : decode prog_1_method_16_code 36 = .ok (.invokevirtual 162, 3) := by decide +kernel
theorem eW_safe_39 : decode prog_1_method_16_code 39 = .ok (.istore_n 3, 1) := by decide +kernel
theorem eW_safe_40 : decode prog_1_method_16_code 40 = .ok (.iload_n 3, 1) := by decide +kernel
theorem eW_safe_41 : decode prog_1_method_16_code 41 = .ok (.ifCond .ge 12, 3) := by decide +kernel
theorem eW_safe_44 : decode prog_1_method_16_code 44 = .ok (.aload_n 0, 1) := by decide +kernel
theorem eW_safe_45 : decode prog_1_method_16_code 45 = .ok (.ldc 118, 2) := by decide +kernel
theorem eW_safe_47 : decode prog_1_method_16_code 47 = .ok (.invokevirtual 52, 3) := by decide +kernel
theorem eW_safe_50 : decode prog_1_method_16_code 50 = .ok (.goto 4, 3) := by decide +kernel
theorem eW_safe_53 : decode prog_1_method_16_code 53 = .ok (.iload_n 3, 1) := by decide +kernel
theorem eW_safe_54 : decode prog_1_method_16_code 54 = .ok (.ireturn, 1) := by decide +kernel
theorem eW_foresee_0 : decode prog_1_method_41_code 0 = .ok (.iconst 0, 1) := by decide +kernel
theorem eW_foresee_1 : decode prog_1_method_41_code 1 = .ok (.istore_n 2, 1) := by decide +kernel
theorem eW_foresee_2 : decode prog_1_method_41_code 2 = .ok (.iload_n 2, 1) := by decide +kernel
theorem eW_foresee_3 : decode prog_1_method_41_code 3 = .ok (.iload_n 1, 1) := by decide +kernel
theorem eW_foresee_4 : decode prog_1_method_41_code 4 = .ok (.if_icmp .ge 49, 3) := by decide +kernel
theorem eW_foresee_7 : decode prog_1_method_41_code 7 = .ok (.iload_n 2, 1) := by decide +kernel
theorem eW_foresee_8 : decode prog_1_method_41_code 8 = .ok (.aload_n 0, 1) := by decide +kernel
theorem eW_foresee_9 : decode prog_1_method_41_code 9 = .ok (.getfield 43, 3) := by decide +kernel
theorem eW_foresee_12 : decode prog_1_method_41_code 12 = .ok (.arraylength, 1) := by decide +kernel
theorem eW_foresee_13 : decode prog_1_method_41_code 13 = .ok (.if_icmp .ge 40, 3) := by decide +kernel
theorem eW_foresee_16 : decode prog_1_method_41_code 16 = .ok (.aload_n 0, 1) := by decide +kernel
theorem eW_foresee_17 : decode prog_1_method_41_code 17 = .ok (.getfield 43, 3) := by decide +kernel
theorem eW_foresee_20 : decode prog_1_method_41_code 20 = .ok (.iload_n 2, 1) := by decide +kernel
theorem eW_foresee_21 : decode prog_1_method_41_code 21 = .ok (.aload_n 0, 1) := by decide +kernel
theorem eW_foresee_22 : decode prog_1_method_41_code 22 = .ok (.getfield 10, 3) := by decide +kernel
theorem eW_foresee_25 : decode prog_1_method_41_code 25 = .ok (.aload_n 0, 1) := by decide +kernel
theorem eW_foresee_26 : decode prog_1_method_41_code 26 = .ok (.getfield 10, 3) := by decide +kernel
theorem eW_foresee_29 : decode prog_1_method_41_code 29 = .ok (.getfield 86, 3) := by decide +kernel
theorem eW_foresee_32 : decode prog_1_method_41_code 32 = .ok (.iload_n 2, 1) := by decide +kernel
theorem eW_foresee_33 : decode prog_1_method_41_code 33 = .ok (.iadd, 1) := by decide +kernel
theorem eW_foresee_34 : decode prog_1_method_41_code 34 = .ok (.aload_n 0, 1) := by decide +kernel
theorem eW_foresee_35 : decode prog_1_method_41_code 35 = .ok (.getfield 10, 3) := by decide +kernel
theorem eW_foresee_38 : decode prog_1_method_41_code 38 = .ok (.getfield 56, 3) := by decide +kernel
theorem eW_foresee_41 : decode prog_1_method_41_code 41 = .ok (.iconst 0, 1) := by decide +kernel
theorem eW_foresee_42 : decode prog_1_method_41_code 42 = .ok (.iaload, 1) := by decide +kernel
theorem eW_foresee_43 : decode prog_1_method_41_code 43 = .ok (.invokevirtual 145, 3) := by decide +kernel
theorem eW_foresee_46 : decode prog_1_method_41_code 46 = .ok (.iastore, 1) := by decide +kernel
theorem eW_foresee_47 : decode prog_1_method_41_code 47 = .ok (.iinc 2 1, 3) := by decide +kernel
theorem eW_foresee_50 : decode prog_1_method_41_code 50 = .ok (.goto (-48), 3) := by decide +kernel
theorem eW_foresee_53 : decode prog_1_method_41_code 53 = .ok (.return_, 1) := by decide +kernel
theorem eW_firstSilence_0 : decode prog_1_method_44_code 0 = .ok (.aload_n 0, 1) := by decide +kernel
theorem eW_firstSilence_1 : decode prog_1_method_44_code 1 = .ok (.getfield 10, 3) := by decide +kernel
theorem eW_firstSilence_4 : decode prog_1_method_44_code 4 = .ok (.iload_n 1, 1) := by decide +kernel
theorem eW_firstSilence_5 : decode prog_1_method_44_code 5 = .ok (.invokevirtual 119, 3) := by decide +kernel
theorem eW_firstSilence_8 : decode prog_1_method_44_code 8 = .ok (.istore_n 3, 1) := by decide +kernel
theorem eW_firstSilence_9 : decode prog_1_method_44_code 9 = .ok (.iconst 0, 1) := by decide +kernel
theorem eW_firstSilence_10 : decode prog_1_method_44_code 10 = .ok (.istore 4, 2) := by decide +kernel
theorem eW_firstSilence_12 : decode prog_1_method_44_code 12 = .ok (.iconst 0, 1) := by decide +kernel
theorem eW_firstSilence_13 : decode prog_1_method_44_code 13 = .ok (.istore 5, 2) := by decide +kernel
theorem eW_firstSilence_15 : decode prog_1_method_44_code 15 = .ok (.iload 5, 2) := by decide +kernel
theorem eW_firstSilence_17 : decode prog_1_method_44_code 17 = .ok (.sipush 240, 3) := by decide +kernel
theorem eW_firstSilence_20 : decode prog_1_method_44_code 20 = .ok (.iload_n 2, 1) := by decide +kernel
theorem eW_firstSilence_21 : decode prog_1_method_44_code 21 = .ok (.iadd, 1) := by decide +kernel
theorem eW_firstSilence_22 : decode prog_1_method_44_code 22 = .ok (.if_icmp .ge 54, 3) := by decide +kernel
theorem eW_firstSilence_25 : decode prog_1_method_44_code 25 = .ok (.iload 5, 2) := by decide +kernel
theorem eW_firstSilence_27 : decode prog_1_method_44_code 27 = .ok (.aload_n 0, 1) := by decide +kernel
theorem eW_firstSilence_28 : decode prog_1_method_44_code 28 = .ok (.getfield 43, 3) := by decide +kernel
theorem eW_firstSilence_31 : decode prog_1_method_44_code 31 = .ok (.arraylength, 1) := by decide +kernel
theorem eW_firstSilence_32 : decode prog_1_method_44_code 32 = .ok (.if_icmp .ge 44, 3) := by decide +kernel
theorem eW_firstSilence_35 : decode prog_1_method_44_code 35 = .ok (.aload_n 0, 1) := by decide +kernel
theorem eW_firstSilence_36 : decode prog_1_method_44_code 36 = .ok (.getfield 43, 3) := by decide +kernel
theorem eW_firstSilence_39 : decode prog_1_method_44_code 39 = .ok (.iload 5, 2) := by decide +kernel
theorem eW_firstSilence_41 : decode prog_1_method_44_code 41 = .ok (.iaload, 1) := by decide +kernel
theorem eW_firstSilence_42 : decode prog_1_method_44_code 42 = .ok (.iload_n 3, 1) := by decide +kernel
theorem eW_firstSilence_43 : decode prog_1_method_44_code 43 = .ok (.iand, 1) := by decide +kernel
theorem eW_firstSilence_44 : decode prog_1_method_44_code 44 = .ok (.ifCond .ne 10, 3) := by decide +kernel
theorem eW_firstSilence_47 : decode prog_1_method_44_code 47 = .ok (.iload 4, 2) := by decide +kernel
theorem eW_firstSilence_49 : decode prog_1_method_44_code 49 = .ok (.iconst 1, 1) := by decide +kernel
theorem eW_firstSilence_50 : decode prog_1_method_44_code 50 = .ok (.iadd, 1) := by decide +kernel
theorem eW_firstSilence_51 : decode prog_1_method_44_code 51 = .ok (.goto 4, 3) := by decide +kernel
theorem eW_firstSilence_54 : decode prog_1_method_44_code 54 = .ok (.iconst 0, 1) := by decide +kernel
theorem eW_firstSilence_55 : decode prog_1_method_44_code 55 = .ok (.istore 4, 2) := by decide +kernel
theorem eW_firstSilence_57 : decode prog_1_method_44_code 57 = .ok (.iload 4, 2) := by decide +kernel
theorem eW_firstSilence_59 : decode prog_1_method_44_code 59 = .ok (.iload_n 2, 1) := by decide +kernel
theorem eW_firstSilence_60 : decode prog_1_method_44_code 60 = .ok (.if_icmp .lt 10, 3) := by decide +kernel
theorem eW_firstSilence_63 : decode prog_1_method_44_code 63 = .ok (.iload 5, 2) := by decide +kernel
theorem eW_firstSilence_65 : decode prog_1_method_44_code 65 = .ok (.iload_n 2, 1) := by decide +kernel
theorem eW_firstSilence_66 : decode prog_1_method_44_code 66 = .ok (.isub, 1) := by decide +kernel
theorem eW_firstSilence_67 : decode prog_1_method_44_code 67 = .ok (.iconst 1, 1) := by decide +kernel
theorem eW_firstSilence_68 : decode prog_1_method_44_code 68 = .ok (.iadd, 1) := by decide +kernel
theorem eW_firstSilence_69 : decode prog_1_method_44_code 69 = .ok (.ireturn, 1) := by decide +kernel
theorem eW_firstSilence_70 : decode prog_1_method_44_code 70 = .ok (.iinc 5 1, 3) := by decide +kernel
theorem eW_firstSilence_73 : decode prog_1_method_44_code 73 = .ok (.goto (-58), 3) := by decide +kernel
theorem eW_firstSilence_76 : decode prog_1_method_44_code 76 = .ok (.iconst (-1), 1) := by decide +kernel
theorem eW_firstSilence_77 : decode prog_1_method_44_code 77 = .ok (.ireturn, 1) := by decide +kernel
theorem eW_where_0 : decode prog_1_method_17_code 0 = .ok (.iload_n 1, 1) := by decide +kernel
theorem eW_where_1 : decode prog_1_method_17_code 1 = .ok (.iconst 1, 1) := by decide +kernel
theorem eW_where_2 : decode prog_1_method_17_code 2 = .ok (.bipush 30, 2) := by decide +kernel
theorem eW_where_4 : decode prog_1_method_17_code 4 = .ok (.invokestatic 82, 3) := by decide +kernel
theorem eW_where_7 : decode prog_1_method_17_code 7 = .ok (.ifCond .ne 10, 3) := by decide +kernel
theorem eW_where_10 : decode prog_1_method_17_code 10 = .ok (.aload_n 0, 1) := by decide +kernel
theorem eW_where_11 : decode prog_1_method_17_code 11 = .ok (.ldc 51, 2) := by decide +kernel
theorem eW_where_13 : decode prog_1_method_17_code 13 = .ok (.invokevirtual 52, 3) := by decide +kernel
theorem eW_where_16 : decode prog_1_method_17_code 16 = .ok (.ireturn, 1) := by decide +kernel
theorem eW_where_17 : decode prog_1_method_17_code 17 = .ok (.aload_n 0, 1) := by decide +kernel
theorem eW_where_18 : decode prog_1_method_17_code 18 = .ok (.sipush 240, 3) := by decide +kernel
theorem eW_where_21 : decode prog_1_method_17_code 21 = .ok (.iload_n 1, 1) := by decide +kernel
theorem eW_where_22 : decode prog_1_method_17_code 22 = .ok (.iadd, 1) := by decide +kernel
theorem eW_where_23 : decode prog_1_method_17_code 23 = .ok (.invokevirtual 158, 3) := by decide +kernel
theorem eW_where_26 : decode prog_1_method_17_code 26 = .ok (.sipush 241, 3) := by decide +kernel
theorem eW_where_29 : decode prog_1_method_17_code 29 = .ok (.istore_n 2, 1) := by decide +kernel
theorem eW_where_30 : decode prog_1_method_17_code 30 = .ok (.iconst (-1), 1) := by decide +kernel
theorem eW_where_31 : decode prog_1_method_17_code 31 = .ok (.istore_n 3, 1) := by decide +kernel
theorem eW_where_32 : decode prog_1_method_17_code 32 = .ok (.iconst 0, 1) := by decide +kernel
theorem eW_where_33 : decode prog_1_method_17_code 33 = .ok (.istore 4, 2) := by decide +kernel
theorem eW_where_35 : decode prog_1_method_17_code 35 = .ok (.iload 4, 2) := by decide +kernel
theorem eW_where_37 : decode prog_1_method_17_code 37 = .ok (.bipush 10, 2) := by decide +kernel
theorem eW_where_39 : decode prog_1_method_17_code 39 = .ok (.if_icmp .ge 35, 3) := by decide +kernel
theorem eW_where_42 : decode prog_1_method_17_code 42 = .ok (.aload_n 0, 1) := by decide +kernel
theorem eW_where_43 : decode prog_1_method_17_code 43 = .ok (.iload 4, 2) := by decide +kernel
theorem eW_where_45 : decode prog_1_method_17_code 45 = .ok (.iload_n 1, 1) := by decide +kernel
theorem eW_where_46 : decode prog_1_method_17_code 46 = .ok (.invokevirtual 162, 3) := by decide +kernel
theorem eW_where_49 : decode prog_1_method_17_code 49 = .ok (.istore 5, 2) := by decide +kernel
theorem eW_where_51 : decode prog_1_method_17_code 51 = .ok (.iload 5, 2) := by decide +kernel
theorem eW_where_53 : decode prog_1_method_17_code 53 = .ok (.ifCond .lt 15, 3) := by decide +kernel
theorem eW_where_56 : decode prog_1_method_17_code 56 = .ok (.iload 5, 2) := by decide +kernel
theorem eW_where_58 : decode prog_1_method_17_code 58 = .ok (.iload_n 2, 1) := by decide +kernel
theorem eW_where_59 : decode prog_1_method_17_code 59 = .ok (.if_icmp .ge 9, 3) := by decide +kernel
theorem eW_where_62 : decode prog_1_method_17_code 62 = .ok (.iload 5, 2) := by decide +kernel
theorem eW_where_64 : decode prog_1_method_17_code 64 = .ok (.istore_n 2, 1) := by decide +kernel
theorem eW_where_65 : decode prog_1_method_17_code 65 = .ok (.iload 4, 2) := by decide +kernel
theorem eW_where_67 : decode prog_1_method_17_code 67 = .ok (.istore_n 3, 1) := by decide +kernel
theorem eW_where_68 : decode prog_1_method_17_code 68 = .ok (.iinc 4 1, 3) := by decide +kernel
theorem eW_where_71 : decode prog_1_method_17_code 71 = .ok (.goto (-36), 3) := by decide +kernel
theorem eW_where_74 : decode prog_1_method_17_code 74 = .ok (.iload_n 3, 1) := by decide +kernel
theorem eW_where_75 : decode prog_1_method_17_code 75 = .ok (.ifCond .ge 12, 3) := by decide +kernel
theorem eW_where_78 : decode prog_1_method_17_code 78 = .ok (.aload_n 0, 1) := by decide +kernel
theorem eW_where_79 : decode prog_1_method_17_code 79 = .ok (.ldc 118, 2) := by decide +kernel
theorem eW_where_81 : decode prog_1_method_17_code 81 = .ok (.invokevirtual 52, 3) := by decide +kernel
theorem eW_where_84 : decode prog_1_method_17_code 84 = .ok (.goto 4, 3) := by decide +kernel
theorem eW_where_87 : decode prog_1_method_17_code 87 = .ok (.iload_n 3, 1) := by decide +kernel
theorem eW_where_88 : decode prog_1_method_17_code 88 = .ok (.ireturn, 1) := by decide +kernel
theorem eW_quiet_0 : decode prog_1_method_18_code 0 = .ok (.iload_n 1, 1) := by decide +kernel
theorem eW_quiet_1 : decode prog_1_method_18_code 1 = .ok (.invokestatic 63, 3) := by decide +kernel
theorem eW_quiet_4 : decode prog_1_method_18_code 4 = .ok (.ifCond .eq 14, 3) := by decide +kernel
theorem eW_quiet_7 : decode prog_1_method_18_code 7 = .ok (.iload_n 2, 1) := by decide +kernel
theorem eW_quiet_8 : decode prog_1_method_18_code 8 = .ok (.iconst 1, 1) := by decide +kernel
theorem eW_quiet_9 : decode prog_1_method_18_code 9 = .ok (.sipush 240, 3) := by decide +kernel
theorem eW_quiet_12 : decode prog_1_method_18_code 12 = .ok (.invokestatic 82, 3) := by decide +kernel
theorem eW_quiet_15 : decode prog_1_method_18_code 15 = .ok (.ifCond .ne 10, 3) := by decide +kernel
theorem eW_quiet_18 : decode prog_1_method_18_code 18 = .ok (.aload_n 0, 1) := by decide +kernel
theorem eW_quiet_19 : decode prog_1_method_18_code 19 = .ok (.ldc 51, 2) := by decide +kernel
theorem eW_quiet_21 : decode prog_1_method_18_code 21 = .ok (.invokevirtual 52, 3) := by decide +kernel
theorem eW_quiet_24 : decode prog_1_method_18_code 24 = .ok (.ireturn, 1) := by decide +kernel
theorem eW_quiet_25 : decode prog_1_method_18_code 25 = .ok (.aload_n 0, 1) := by decide +kernel
theorem eW_quiet_26 : decode prog_1_method_18_code 26 = .ok (.getfield 10, 3) := by decide +kernel
theorem eW_quiet_29 : decode prog_1_method_18_code 29 = .ok (.aload_n 0, 1) := by decide +kernel
theorem eW_quiet_30 : decode prog_1_method_18_code 30 = .ok (.getfield 10, 3) := by decide +kernel
theorem eW_quiet_33 : decode prog_1_method_18_code 33 = .ok (.iload_n 1, 1) := by decide +kernel
theorem eW_quiet_34 : decode prog_1_method_18_code 34 = .ok (.invokevirtual 119, 3) := by decide +kernel
theorem eW_quiet_37 : decode prog_1_method_18_code 37 = .ok (.iload_n 2, 1) := by decide +kernel
theorem eW_quiet_38 : decode prog_1_method_18_code 38 = .ok (.aload_n 0, 1) := by decide +kernel
theorem eW_quiet_39 : decode prog_1_method_18_code 39 = .ok (.getfield 10, 3) := by decide +kernel
theorem eW_quiet_42 : decode prog_1_method_18_code 42 = .ok (.getfield 56, 3) := by decide +kernel
theorem eW_quiet_45 : decode prog_1_method_18_code 45 = .ok (.iconst 0, 1) := by decide +kernel
theorem eW_quiet_46 : decode prog_1_method_18_code 46 = .ok (.iaload, 1) := by decide +kernel
theorem eW_quiet_47 : decode prog_1_method_18_code 47 = .ok (.invokevirtual 165, 3) := by decide +kernel
theorem eW_quiet_50 : decode prog_1_method_18_code 50 = .ok (.ireturn, 1) := by decide +kernel
theorem eP_silentMinutes_0 : decode prog_2_method_10_code 0 = .ok (.iconst 0, 1) := by decide +kernel
theorem eP_silentMinutes_1 : decode prog_2_method_10_code 1 = .ok (.istore 4, 2) := by decide +kernel
theorem eP_silentMinutes_3 : decode prog_2_method_10_code 3 = .ok (.iconst 0, 1) := by decide +kernel
theorem eP_silentMinutes_4 : decode prog_2_method_10_code 4 = .ok (.istore 5, 2) := by decide +kernel
theorem eP_silentMinutes_6 : decode prog_2_method_10_code 6 = .ok (.iload 5, 2) := by decide +kernel
theorem eP_silentMinutes_8 : decode prog_2_method_10_code 8 = .ok (.iload_n 2, 1) := by decide +kernel
theorem eP_silentMinutes_9 : decode prog_2_method_10_code 9 = .ok (.if_icmp .ge 36, 3) := by decide +kernel
theorem eP_silentMinutes_12 : decode prog_2_method_10_code 12 = .ok (.iload 4, 2) := by decide +kernel
theorem eP_silentMinutes_14 : decode prog_2_method_10_code 14 = .ok (.aload_n 0, 1) := by decide +kernel
theorem eP_silentMinutes_15 : decode prog_2_method_10_code 15 = .ok (.aload_n 0, 1) := by decide +kernel
theorem eP_silentMinutes_16 : decode prog_2_method_10_code 16 = .ok (.getfield 9, 3) := by decide +kernel
theorem eP_silentMinutes_19 : decode prog_2_method_10_code 19 = .ok (.iload 5, 2) := by decide +kernel
theorem eP_silentMinutes_21 : decode prog_2_method_10_code 21 = .ok (.iadd, 1) := by decide +kernel
theorem eP_silentMinutes_22 : decode prog_2_method_10_code 22 = .ok (.iload_n 3, 1) := by decide +kernel
theorem eP_silentMinutes_23 : decode prog_2_method_10_code 23 = .ok (.invokevirtual 36, 3) := by decide +kernel
theorem eP_silentMinutes_26 : decode prog_2_method_10_code 26 = .ok (.iload_n 1, 1) := by decide +kernel
theorem eP_silentMinutes_27 : decode prog_2_method_10_code 27 = .ok (.iand, 1) := by decide +kernel
theorem eP_silentMinutes_28 : decode prog_2_method_10_code 28 = .ok (.ifCond .ne 7, 3) := by decide +kernel
theorem eP_silentMinutes_31 : decode prog_2_method_10_code 31 = .ok (.iconst 1, 1) := by decide +kernel
theorem eP_silentMinutes_32 : decode prog_2_method_10_code 32 = .ok (.goto 4, 3) := by decide +kernel
theorem eP_silentMinutes_35 : decode prog_2_method_10_code 35 = .ok (.iconst 0, 1) := by decide +kernel
theorem eP_silentMinutes_36 : decode prog_2_method_10_code 36 = .ok (.iadd, 1) := by decide +kernel
theorem eP_silentMinutes_37 : decode prog_2_method_10_code 37 = .ok (.istore 4, 2) := by decide +kernel
theorem eP_silentMinutes_39 : decode prog_2_method_10_code 39 = .ok (.iinc 5 1, 3) := by decide +kernel
theorem eP_silentMinutes_42 : decode prog_2_method_10_code 42 = .ok (.goto (-36), 3) := by decide +kernel
theorem eP_silentMinutes_45 : decode prog_2_method_10_code 45 = .ok (.iload 4, 2) := by decide +kernel
theorem eP_silentMinutes_47 : decode prog_2_method_10_code 47 = .ok (.ireturn, 1) := by decide +kernel
theorem eW_worst_0 : decode prog_1_method_19_code 0 = .ok (.iload_n 1, 1) := by decide +kernel
theorem eW_worst_1 : decode prog_1_method_19_code 1 = .ok (.invokestatic 63, 3) := by decide +kernel
theorem eW_worst_4 : decode prog_1_method_19_code 4 = .ok (.ifCond .eq 14, 3) := by decide +kernel
theorem eW_worst_7 : decode prog_1_method_19_code 7 = .ok (.iload_n 2, 1) := by decide +kernel
theorem eW_worst_8 : decode prog_1_method_19_code 8 = .ok (.iconst 1, 1) := by decide +kernel
theorem eW_worst_9 : decode prog_1_method_19_code 9 = .ok (.sipush 240, 3) := by decide +kernel
theorem eW_worst_12 : decode prog_1_method_19_code 12 = .ok (.invokestatic 82, 3) := by decide +kernel
theorem eW_worst_15 : decode prog_1_method_19_code 15 = .ok (.ifCond .ne 10, 3) := by decide +kernel
theorem eW_worst_18 : decode prog_1_method_19_code 18 = .ok (.aload_n 0, 1) := by decide +kernel
theorem eW_worst_19 : decode prog_1_method_19_code 19 = .ok (.ldc 51, 2) := by decide +kernel
theorem eW_worst_21 : decode prog_1_method_19_code 21 = .ok (.invokevirtual 52, 3) := by decide +kernel
theorem eW_worst_24 : decode prog_1_method_19_code 24 = .ok (.ireturn, 1) := by decide +kernel
theorem eW_worst_25 : decode prog_1_method_19_code 25 = .ok (.aload_n 0, 1) := by decide +kernel
theorem eW_worst_26 : decode prog_1_method_19_code 26 = .ok (.iload_n 2, 1) := by decide +kernel
theorem eW_worst_27 : decode prog_1_method_19_code 27 = .ok (.invokevirtual 158, 3) := by decide +kernel
theorem eW_worst_30 : decode prog_1_method_19_code 30 = .ok (.aload_n 0, 1) := by decide +kernel
theorem eW_worst_31 : decode prog_1_method_19_code 31 = .ok (.getfield 10, 3) := by decide +kernel
theorem eW_worst_34 : decode prog_1_method_19_code 34 = .ok (.iload_n 1, 1) := by decide +kernel
theorem eW_worst_35 : decode prog_1_method_19_code 35 = .ok (.invokevirtual 119, 3) := by decide +kernel
theorem eW_worst_38 : decode prog_1_method_19_code 38 = .ok (.istore_n 3, 1) := by decide +kernel
theorem eW_worst_39 : decode prog_1_method_19_code 39 = .ok (.iconst 0, 1) := by decide +kernel
theorem eW_worst_40 : decode prog_1_method_19_code 40 = .ok (.istore 4, 2) := by decide +kernel
theorem eW_worst_42 : decode prog_1_method_19_code 42 = .ok (.iconst (-1), 1) := by decide +kernel
theorem eW_worst_43 : decode prog_1_method_19_code 43 = .ok (.istore 5, 2) := by decide +kernel
theorem eW_worst_45 : decode prog_1_method_19_code 45 = .ok (.iconst 0, 1) := by decide +kernel
theorem eW_worst_46 : decode prog_1_method_19_code 46 = .ok (.istore 6, 2) := by decide +kernel
theorem eW_worst_48 : decode prog_1_method_19_code 48 = .ok (.iload 6, 2) := by decide +kernel
theorem eW_worst_50 : decode prog_1_method_19_code 50 = .ok (.aload_n 0, 1) := by decide +kernel
theorem eW_worst_51 : decode prog_1_method_19_code 51 = .ok (.getfield 10, 3) := by decide +kernel
theorem eW_worst_54 : decode prog_1_method_19_code 54 = .ok (.getfield 168, 3) := by decide +kernel
theorem eW_worst_57 : decode prog_1_method_19_code 57 = .ok (.if_icmp .ge 36, 3) := by decide +kernel
theorem eW_worst_60 : decode prog_1_method_19_code 60 = .ok (.aload_n 0, 1) := by decide +kernel
theorem eW_worst_61 : decode prog_1_method_19_code 61 = .ok (.iconst 1, 1) := by decide +kernel
theorem eW_worst_62 : decode prog_1_method_19_code 62 = .ok (.iload 6, 2) := by decide +kernel
theorem eW_worst_64 : decode prog_1_method_19_code 64 = .ok (.ishl, 1) := by decide +kernel
theorem eW_worst_65 : decode prog_1_method_19_code 65 = .ok (.iload_n 3, 1) := by decide +kernel
theorem eW_worst_66 : decode prog_1_method_19_code 66 = .ok (.iload_n 2, 1) := by decide +kernel
theorem eW_worst_67 : decode prog_1_method_19_code 67 = .ok (.invokevirtual 171, 3) := by decide +kernel
theorem eW_worst_70 : decode prog_1_method_19_code 70 = .ok (.istore 7, 2) := by decide +kernel
theorem eW_worst_72 : decode prog_1_method_19_code 72 = .ok (.iload 7, 2) := by decide +kernel
theorem eW_worst_74 : decode prog_1_method_19_code 74 = .ok (.iload 4, 2) := by decide +kernel
theorem eW_worst_76 : decode prog_1_method_19_code 76 = .ok (.if_icmp .le 11, 3) := by decide +kernel
theorem eW_worst_79 : decode prog_1_method_19_code 79 = .ok (.iload 7, 2) := by decide +kernel
theorem eW_worst_81 : decode prog_1_method_19_code 81 = .ok (.istore 4, 2) := by decide +kernel
theorem eW_worst_83 : decode prog_1_method_19_code 83 = .ok (.iload 6, 2) := by decide +kernel
theorem eW_worst_85 : decode prog_1_method_19_code 85 = .ok (.istore 5, 2) := by decide +kernel
theorem eW_worst_87 : decode prog_1_method_19_code 87 = .ok (.iinc 6 1, 3) := by decide +kernel
theorem eW_worst_90 : decode prog_1_method_19_code 90 = .ok (.goto (-42), 3) := by decide +kernel
theorem eW_worst_93 : decode prog_1_method_19_code 93 = .ok (.iload 5, 2) := by decide +kernel
theorem eW_worst_95 : decode prog_1_method_19_code 95 = .ok (.ifCond .ge 12, 3) := by decide +kernel
theorem eW_worst_98 : decode prog_1_method_19_code 98 = .ok (.aload_n 0, 1) := by decide +kernel
theorem eW_worst_99 : decode prog_1_method_19_code 99 = .ok (.ldc 118, 2) := by decide +kernel
theorem eW_worst_101 : decode prog_1_method_19_code 101 = .ok (.invokevirtual 52, 3) := by decide +kernel
theorem eW_worst_104 : decode prog_1_method_19_code 104 = .ok (.goto 5, 3) := by decide +kernel
theorem eW_worst_107 : decode prog_1_method_19_code 107 = .ok (.iload 5, 2) := by decide +kernel
theorem eW_worst_109 : decode prog_1_method_19_code 109 = .ok (.ireturn, 1) := by decide +kernel
theorem eW_minutesAlone_0 : decode prog_1_method_42_code 0 = .ok (.iconst 0, 1) := by decide +kernel
theorem eW_minutesAlone_1 : decode prog_1_method_42_code 1 = .ok (.istore 4, 2) := by decide +kernel
theorem eW_minutesAlone_3 : decode prog_1_method_42_code 3 = .ok (.iconst 0, 1) := by decide +kernel
theorem eW_minutesAlone_4 : decode prog_1_method_42_code 4 = .ok (.istore 5, 2) := by decide +kernel
theorem eW_minutesAlone_6 : decode prog_1_method_42_code 6 = .ok (.iload 5, 2) := by decide +kernel
theorem eW_minutesAlone_8 : decode prog_1_method_42_code 8 = .ok (.iload_n 3, 1) := by decide +kernel
theorem eW_minutesAlone_9 : decode prog_1_method_42_code 9 = .ok (.if_icmp .ge 42, 3) := by decide +kernel
theorem eW_minutesAlone_12 : decode prog_1_method_42_code 12 = .ok (.iload 5, 2) := by decide +kernel
theorem eW_minutesAlone_14 : decode prog_1_method_42_code 14 = .ok (.aload_n 0, 1) := by decide +kernel
theorem eW_minutesAlone_15 : decode prog_1_method_42_code 15 = .ok (.getfield 43, 3) := by decide +kernel
theorem eW_minutesAlone_18 : decode prog_1_method_42_code 18 = .ok (.arraylength, 1) := by decide +kernel
theorem eW_minutesAlone_19 : decode prog_1_method_42_code 19 = .ok (.if_icmp .ge 32, 3) := by decide +kernel
theorem eW_minutesAlone_22 : decode prog_1_method_42_code 22 = .ok (.iload 4, 2) := by decide +kernel
theorem eW_minutesAlone_24 : decode prog_1_method_42_code 24 = .ok (.aload_n 0, 1) := by decide +kernel
theorem eW_minutesAlone_25 : decode prog_1_method_42_code 25 = .ok (.getfield 43, 3) := by decide +kernel
theorem eW_minutesAlone_28 : decode prog_1_method_42_code 28 = .ok (.iload 5, 2) := by decide +kernel
theorem eW_minutesAlone_30 : decode prog_1_method_42_code 30 = .ok (.iaload, 1) := by decide +kernel
theorem eW_minutesAlone_31 : decode prog_1_method_42_code 31 = .ok (.iload_n 2, 1) := by decide +kernel
theorem eW_minutesAlone_32 : decode prog_1_method_42_code 32 = .ok (.iand, 1) := by decide +kernel
theorem eW_minutesAlone_33 : decode prog_1_method_42_code 33 = .ok (.iload_n 1, 1) := by decide +kernel
theorem eW_minutesAlone_34 : decode prog_1_method_42_code 34 = .ok (.if_icmp .ne 7, 3) := by decide +kernel
theorem eW_minutesAlone_37 : decode prog_1_method_42_code 37 = .ok (.iconst 1, 1) := by decide +kernel
theorem eW_minutesAlone_38 : decode prog_1_method_42_code 38 = .ok (.goto 4, 3) := by decide +kernel
theorem eW_minutesAlone_41 : decode prog_1_method_42_code 41 = .ok (.iconst 0, 1) := by decide +kernel
theorem eW_minutesAlone_42 : decode prog_1_method_42_code 42 = .ok (.iadd, 1) := by decide +kernel
theorem eW_minutesAlone_43 : decode prog_1_method_42_code 43 = .ok (.istore 4, 2) := by decide +kernel
theorem eW_minutesAlone_45 : decode prog_1_method_42_code 45 = .ok (.iinc 5 1, 3) := by decide +kernel
theorem eW_minutesAlone_48 : decode prog_1_method_42_code 48 = .ok (.goto (-42), 3) := by decide +kernel
theorem eW_minutesAlone_51 : decode prog_1_method_42_code 51 = .ok (.iload 4, 2) := by decide +kernel
theorem eW_minutesAlone_53 : decode prog_1_method_42_code 53 = .ok (.ireturn, 1) := by decide +kernel
theorem eW_cover_0 : decode prog_1_method_20_code 0 = .ok (.iload_n 1, 1) := by decide +kernel
theorem eW_cover_1 : decode prog_1_method_20_code 1 = .ok (.invokestatic 63, 3) := by decide +kernel
theorem eW_cover_4 : decode prog_1_method_20_code 4 = .ok (.ifCond .eq 13, 3) := by decide +kernel
theorem eW_cover_7 : decode prog_1_method_20_code 7 = .ok (.iload_n 2, 1) := by decide +kernel
theorem eW_cover_8 : decode prog_1_method_20_code 8 = .ok (.iconst 1, 1) := by decide +kernel
theorem eW_cover_9 : decode prog_1_method_20_code 9 = .ok (.bipush 60, 2) := by decide +kernel
theorem eW_cover_11 : decode prog_1_method_20_code 11 = .ok (.invokestatic 82, 3) := by decide +kernel
theorem eW_cover_14 : decode prog_1_method_20_code 14 = .ok (.ifCond .ne 10, 3) := by decide +kernel
theorem eW_cover_17 : decode prog_1_method_20_code 17 = .ok (.aload_n 0, 1) := by decide +kernel
theorem eW_cover_18 : decode prog_1_method_20_code 18 = .ok (.ldc 51, 2) := by decide +kernel
theorem eW_cover_20 : decode prog_1_method_20_code 20 = .ok (.invokevirtual 52, 3) := by decide +kernel
theorem eW_cover_23 : decode prog_1_method_20_code 23 = .ok (.ireturn, 1) := by decide +kernel
theorem eW_cover_24 : decode prog_1_method_20_code 24 = .ok (.aload_n 0, 1) := by decide +kernel
theorem eW_cover_25 : decode prog_1_method_20_code 25 = .ok (.iload_n 2, 1) := by decide +kernel
theorem eW_cover_26 : decode prog_1_method_20_code 26 = .ok (.invokevirtual 158, 3) := by decide +kernel
theorem eW_cover_29 : decode prog_1_method_20_code 29 = .ok (.aload_n 0, 1) := by decide +kernel
theorem eW_cover_30 : decode prog_1_method_20_code 30 = .ok (.getfield 10, 3) := by decide +kernel
theorem eW_cover_33 : decode prog_1_method_20_code 33 = .ok (.iload_n 1, 1) := by decide +kernel
theorem eW_cover_34 : decode prog_1_method_20_code 34 = .ok (.invokevirtual 119, 3) := by decide +kernel
theorem eW_cover_37 : decode prog_1_method_20_code 37 = .ok (.istore_n 3, 1) := by decide +kernel
theorem eW_cover_38 : decode prog_1_method_20_code 38 = .ok (.aload_n 0, 1) := by decide +kernel
theorem eW_cover_39 : decode prog_1_method_20_code 39 = .ok (.iload_n 3, 1) := by decide +kernel
theorem eW_cover_40 : decode prog_1_method_20_code 40 = .ok (.iload_n 2, 1) := by decide +kernel
theorem eW_cover_41 : decode prog_1_method_20_code 41 = .ok (.invokevirtual 174, 3) := by decide +kernel
theorem eW_cover_44 : decode prog_1_method_20_code 44 = .ok (.ifCond .ne 10, 3) := by decide +kernel
theorem eW_cover_47 : decode prog_1_method_20_code 47 = .ok (.aload_n 0, 1) := by decide +kernel
theorem eW_cover_48 : decode prog_1_method_20_code 48 = .ok (.ldc 118, 2) := by decide +kernel
theorem eW_cover_50 : decode prog_1_method_20_code 50 = .ok (.invokevirtual 52, 3) := by decide +kernel
theorem eW_cover_53 : decode prog_1_method_20_code 53 = .ok (.ireturn, 1) := by decide +kernel
theorem eW_cover_54 : decode prog_1_method_20_code 54 = .ok (.iload_n 3, 1) := by decide +kernel
theorem eW_cover_55 : decode prog_1_method_20_code 55 = .ok (.istore 4, 2) := by decide +kernel
theorem eW_cover_57 : decode prog_1_method_20_code 57 = .ok (.iconst 0, 1) := by decide +kernel
theorem eW_cover_58 : decode prog_1_method_20_code 58 = .ok (.istore 5, 2) := by decide +kernel
theorem eW_cover_60 : decode prog_1_method_20_code 60 = .ok (.iload 5, 2) := by decide +kernel
theorem eW_cover_62 : decode prog_1_method_20_code 62 = .ok (.iload_n 3, 1) := by decide +kernel
theorem eW_cover_63 : decode prog_1_method_20_code 63 = .ok (.if_icmp .ge 57, 3) := by decide +kernel
theorem eW_cover_66 : decode prog_1_method_20_code 66 = .ok (.iload 5, 2) := by decide +kernel
theorem eW_cover_68 : decode prog_1_method_20_code 68 = .ok (.iload_n 3, 1) := by decide +kernel
theorem eW_cover_69 : decode prog_1_method_20_code 69 = .ok (.iconst (-1), 1) := by decide +kernel
theorem eW_cover_70 : decode prog_1_method_20_code 70 = .ok (.ixor, 1) := by decide +kernel
theorem eW_cover_71 : decode prog_1_method_20_code 71 = .ok (.iand, 1) := by decide +kernel
theorem eW_cover_72 : decode prog_1_method_20_code 72 = .ok (.ifCond .ne 7, 3) := by decide +kernel
theorem eW_cover_75 : decode prog_1_method_20_code 75 = .ok (.iconst 1, 1) := by decide +kernel
theorem eW_cover_76 : decode prog_1_method_20_code 76 = .ok (.goto 4, 3) := by decide +kernel
theorem eW_cover_79 : decode prog_1_method_20_code 79 = .ok (.iconst 0, 1) := by decide +kernel
theorem eW_cover_80 : decode prog_1_method_20_code 80 = .ok (.istore 6, 2) := by decide +kernel
theorem eW_cover_82 : decode prog_1_method_20_code 82 = .ok (.iload 6, 2) := by decide +kernel
theorem eW_cover_84 : decode prog_1_method_20_code 84 = .ok (.ifCond .eq 30, 3) := by decide +kernel
theorem eW_cover_87 : decode prog_1_method_20_code 87 = .ok (.iload 5, 2) := by decide +kernel
theorem eW_cover_89 : decode prog_1_method_20_code 89 = .ok (.invokestatic 134, 3) := by decide +kernel
theorem eW_cover_92 : decode prog_1_method_20_code 92 = .ok (.iload 4, 2) := by decide +kernel
theorem eW_cover_94 : decode prog_1_method_20_code 94 = .ok (.invokestatic 134, 3) := by decide +kernel
theorem eW_cover_97 : decode prog_1_method_20_code 97 = .ok (.if_icmp .ge 17, 3) := by decide +kernel
theorem eW_cover_100 : decode prog_1_method_20_code 100 = .ok (.aload_n 0, 1) := by decide +kernel
theorem eW_cover_101 : decode prog_1_method_20_code 101 = .ok (.iload 5, 2) := by decide +kernel
theorem eW_cover_103 : decode prog_1_method_20_code 103 = .ok (.iload_n 2, 1) := by decide +kernel
theorem eW_cover_104 : decode prog_1_method_20_code 104 = .ok (.invokevirtual 174, 3) := by decide +kernel
theorem eW_cover_107 : decode prog_1_method_20_code 107 = .ok (.ifCond .eq 7, 3) := by decide +kernel
theorem eW_cover_110 : decode prog_1_method_20_code 110 = .ok (.iload 5, 2) := by decide +kernel
theorem eW_cover_112 : decode prog_1_method_20_code 112 = .ok (.istore 4, 2) := by decide +kernel
theorem eW_cover_114 : decode prog_1_method_20_code 114 = .ok (.iinc 5 1, 3) := by decide +kernel
theorem eW_cover_117 : decode prog_1_method_20_code 117 = .ok (.goto (-57), 3) := by decide +kernel
theorem eW_cover_120 : decode prog_1_method_20_code 120 = .ok (.iload 4, 2) := by decide +kernel
theorem eW_cover_122 : decode prog_1_method_20_code 122 = .ok (.ireturn, 1) := by decide +kernel
theorem eW_hearsAlways_0 : decode prog_1_method_43_code 0 = .ok (.iconst 0, 1) := by decide +kernel
theorem eW_hearsAlways_1 : decode prog_1_method_43_code 1 = .ok (.istore_n 3, 1) := by decide +kernel
theorem eW_hearsAlways_2 : decode prog_1_method_43_code 2 = .ok (.iload_n 3, 1) := by decide +kernel
theorem eW_hearsAlways_3 : decode prog_1_method_43_code 3 = .ok (.iload_n 2, 1) := by decide +kernel
theorem eW_hearsAlways_4 : decode prog_1_method_43_code 4 = .ok (.if_icmp .ge 31, 3) := by decide +kernel
theorem eW_hearsAlways_7 : decode prog_1_method_43_code 7 = .ok (.iload_n 3, 1) := by decide +kernel
theorem eW_hearsAlways_8 : decode prog_1_method_43_code 8 = .ok (.aload_n 0, 1) := by decide +kernel
theorem eW_hearsAlways_9 : decode prog_1_method_43_code 9 = .ok (.getfield 43, 3) := by decide +kernel
theorem eW_hearsAlways_12 : decode prog_1_method_43_code 12 = .ok (.arraylength, 1) := by decide +kernel
theorem eW_hearsAlways_13 : decode prog_1_method_43_code 13 = .ok (.if_icmp .ge 22, 3) := by decide +kernel
theorem eW_hearsAlways_16 : decode prog_1_method_43_code 16 = .ok (.aload_n 0, 1) := by decide +kernel
theorem eW_hearsAlways_17 : decode prog_1_method_43_code 17 = .ok (.getfield 43, 3) := by decide +kernel
theorem eW_hearsAlways_20 : decode prog_1_method_43_code 20 = .ok (.iload_n 3, 1) := by decide +kernel
theorem eW_hearsAlways_21 : decode prog_1_method_43_code 21 = .ok (.iaload, 1) := by decide +kernel
theorem eW_hearsAlways_22 : decode prog_1_method_43_code 22 = .ok (.iload_n 1, 1) := by decide +kernel
theorem eW_hearsAlways_23 : decode prog_1_method_43_code 23 = .ok (.iand, 1) := by decide +kernel
theorem eW_hearsAlways_24 : decode prog_1_method_43_code 24 = .ok (.ifCond .ne 5, 3) := by decide +kernel
theorem eW_hearsAlways_27 : decode prog_1_method_43_code 27 = .ok (.iconst 0, 1) := by decide +kernel
theorem eW_hearsAlways_28 : decode prog_1_method_43_code 28 = .ok (.ireturn, 1) := by decide +kernel
theorem eW_hearsAlways_29 : decode prog_1_method_43_code 29 = .ok (.iinc 3 1, 3) := by decide +kernel
theorem eW_hearsAlways_32 : decode prog_1_method_43_code 32 = .ok (.goto (-30), 3) := by decide +kernel
theorem eW_hearsAlways_35 : decode prog_1_method_43_code 35 = .ok (.iconst 1, 1) := by decide +kernel
theorem eW_hearsAlways_36 : decode prog_1_method_43_code 36 = .ok (.ireturn, 1) := by decide +kernel
theorem eW_shift_0 : decode prog_1_method_21_code 0 = .ok (.iload_n 1, 1) := by decide +kernel
theorem eW_shift_1 : decode prog_1_method_21_code 1 = .ok (.invokestatic 63, 3) := by decide +kernel
theorem eW_shift_4 : decode prog_1_method_21_code 4 = .ok (.ifCond .eq 13, 3) := by decide +kernel
theorem eW_shift_7 : decode prog_1_method_21_code 7 = .ok (.iload_n 2, 1) := by decide +kernel
theorem eW_shift_8 : decode prog_1_method_21_code 8 = .ok (.iconst 1, 1) := by decide +kernel
theorem eW_shift_9 : decode prog_1_method_21_code 9 = .ok (.bipush 60, 2) := by decide +kernel
theorem eW_shift_11 : decode prog_1_method_21_code 11 = .ok (.invokestatic 82, 3) := by decide +kernel
theorem eW_shift_14 : decode prog_1_method_21_code 14 = .ok (.ifCond .ne 10, 3) := by decide +kernel
theorem eW_shift_17 : decode prog_1_method_21_code 17 = .ok (.aload_n 0, 1) := by decide +kernel
theorem eW_shift_18 : decode prog_1_method_21_code 18 = .ok (.ldc 51, 2) := by decide +kernel
theorem eW_shift_20 : decode prog_1_method_21_code 20 = .ok (.invokevirtual 52, 3) := by decide +kernel
theorem eW_shift_23 : decode prog_1_method_21_code 23 = .ok (.ireturn, 1) := by decide +kernel
theorem eW_shift_24 : decode prog_1_method_21_code 24 = .ok (.aload_n 0, 1) := by decide +kernel
theorem eW_shift_25 : decode prog_1_method_21_code 25 = .ok (.getfield 10, 3) := by decide +kernel
theorem eW_shift_28 : decode prog_1_method_21_code 28 = .ok (.iload_n 1, 1) := by decide +kernel
theorem eW_shift_29 : decode prog_1_method_21_code 29 = .ok (.invokevirtual 119, 3) := by decide +kernel
theorem eW_shift_32 : decode prog_1_method_21_code 32 = .ok (.istore_n 3, 1) := by decide +kernel
theorem eW_shift_33 : decode prog_1_method_21_code 33 = .ok (.iload_n 2, 1) := by decide +kernel
theorem eW_shift_34 : decode prog_1_method_21_code 34 = .ok (.iconst 1, 1) := by decide +kernel
theorem eW_shift_35 : decode prog_1_method_21_code 35 = .ok (.iadd, 1) := by decide +kernel
theorem eW_shift_36 : decode prog_1_method_21_code 36 = .ok (.istore 4, 2) := by decide +kernel
theorem eW_shift_38 : decode prog_1_method_21_code 38 = .ok (.iconst 1, 1) := by decide +kernel
theorem eW_shift_39 : decode prog_1_method_21_code 39 = .ok (.istore 5, 2) := by decide +kernel
theorem eW_shift_41 : decode prog_1_method_21_code 41 = .ok (.getstatic 177, 3) := by decide +kernel
theorem eW_shift_44 : decode prog_1_method_21_code 44 = .ok (.iconst 0, 1) := by decide +kernel
theorem eW_shift_45 : decode prog_1_method_21_code 45 = .ok (.iaload, 1) := by decide +kernel
theorem eW_shift_46 : decode prog_1_method_21_code 46 = .ok (.istore 6, 2) := by decide +kernel
theorem eW_shift_48 : decode prog_1_method_21_code 48 = .ok (.iload 6, 2) := by decide +kernel
theorem eW_shift_50 : decode prog_1_method_21_code 50 = .ok (.getstatic 180, 3) := by decide +kernel
theorem eW_shift_53 : decode prog_1_method_21_code 53 = .ok (.iconst 0, 1) := by decide +kernel
theorem eW_shift_54 : decode prog_1_method_21_code 54 = .ok (.iaload, 1) := by decide +kernel
theorem eW_shift_55 : decode prog_1_method_21_code 55 = .ok (.if_icmp .gt 37, 3) := by decide +kernel
theorem eW_shift_58 : decode prog_1_method_21_code 58 = .ok (.aload_n 0, 1) := by decide +kernel
theorem eW_shift_59 : decode prog_1_method_21_code 59 = .ok (.getfield 10, 3) := by decide +kernel
theorem eW_shift_62 : decode prog_1_method_21_code 62 = .ok (.iload_n 3, 1) := by decide +kernel
theorem eW_shift_63 : decode prog_1_method_21_code 63 = .ok (.iload_n 2, 1) := by decide +kernel
theorem eW_shift_64 : decode prog_1_method_21_code 64 = .ok (.iload 6, 2) := by decide +kernel
theorem eW_shift_66 : decode prog_1_method_21_code 66 = .ok (.invokevirtual 165, 3) := by decide +kernel
theorem eW_shift_69 : decode prog_1_method_21_code 69 = .ok (.istore 7, 2) := by decide +kernel
theorem eW_shift_71 : decode prog_1_method_21_code 71 = .ok (.iload 7, 2) := by decide +kernel
theorem eW_shift_73 : decode prog_1_method_21_code 73 = .ok (.iload 4, 2) := by decide +kernel
theorem eW_shift_75 : decode prog_1_method_21_code 75 = .ok (.if_icmp .ge 11, 3) := by decide +kernel
theorem eW_shift_78 : decode prog_1_method_21_code 78 = .ok (.iload 7, 2) := by decide +kernel
theorem eW_shift_80 : decode prog_1_method_21_code 80 = .ok (.istore 4, 2) := by decide +kernel
theorem eW_shift_82 : decode prog_1_method_21_code 82 = .ok (.iload 6, 2) := by decide +kernel
theorem eW_shift_84 : decode prog_1_method_21_code 84 = .ok (.istore 5, 2) := by decide +kernel
theorem eW_shift_86 : decode prog_1_method_21_code 86 = .ok (.iinc 6 1, 3) := by decide +kernel
theorem eW_shift_89 : decode prog_1_method_21_code 89 = .ok (.goto (-41), 3) := by decide +kernel
theorem eW_shift_92 : decode prog_1_method_21_code 92 = .ok (.iload 5, 2) := by decide +kernel
theorem eW_shift_94 : decode prog_1_method_21_code 94 = .ok (.ireturn, 1) := by decide +kernel
theorem eW_side_0 : decode prog_1_method_22_code 0 = .ok (.aload_n 0, 1) := by decide +kernel
theorem eW_side_1 : decode prog_1_method_22_code 1 = .ok (.iload_n 1, 1) := by decide +kernel
theorem eW_side_2 : decode prog_1_method_22_code 2 = .ok (.invokevirtual 75, 3) := by decide +kernel
theorem eW_side_5 : decode prog_1_method_22_code 5 = .ok (.ifCond .eq 21, 3) := by decide +kernel
theorem eW_side_8 : decode prog_1_method_22_code 8 = .ok (.iload_n 2, 1) := by decide +kernel
theorem eW_side_9 : decode prog_1_method_22_code 9 = .ok (.invokestatic 63, 3) := by decide +kernel
theorem eW_side_12 : decode prog_1_method_22_code 12 = .ok (.ifCond .eq 14, 3) := by decide +kernel
theorem eW_side_15 : decode prog_1_method_22_code 15 = .ok (.iload_n 3, 1) := by decide +kernel
theorem eW_side_16 : decode prog_1_method_22_code 16 = .ok (.iconst 1, 1) := by decide +kernel
theorem eW_side_17 : decode prog_1_method_22_code 17 = .ok (.sipush 240, 3) := by decide +kernel
theorem eW_side_20 : decode prog_1_method_22_code 20 = .ok (.invokestatic 82, 3) := by decide +kernel
theorem eW_side_23 : decode prog_1_method_22_code 23 = .ok (.ifCond .ne 10, 3) := by decide +kernel
theorem eW_side_26 : decode prog_1_method_22_code 26 = .ok (.aload_n 0, 1) := by decide +kernel
theorem eW_side_27 : decode prog_1_method_22_code 27 = .ok (.ldc 51, 2) := by decide +kernel
theorem eW_side_29 : decode prog_1_method_22_code 29 = .ok (.invokevirtual 52, 3) := by decide +kernel
theorem eW_side_32 : decode prog_1_method_22_code 32 = .ok (.ireturn, 1) := by decide +kernel
theorem eW_side_33 : decode prog_1_method_22_code 33 = .ok (.aload_n 0, 1) := by decide +kernel
theorem eW_side_34 : decode prog_1_method_22_code 34 = .ok (.getfield 10, 3) := by decide +kernel
theorem eW_side_37 : decode prog_1_method_22_code 37 = .ok (.iload_n 2, 1) := by decide +kernel
theorem eW_side_38 : decode prog_1_method_22_code 38 = .ok (.invokevirtual 119, 3) := by decide +kernel
theorem eW_side_41 : decode prog_1_method_22_code 41 = .ok (.istore 4, 2) := by decide +kernel
theorem eW_side_43 : decode prog_1_method_22_code 43 = .ok (.iload_n 3, 1) := by decide +kernel
theorem eW_side_44 : decode prog_1_method_22_code 44 = .ok (.iconst 1, 1) := by decide +kernel
theorem eW_side_45 : decode prog_1_method_22_code 45 = .ok (.iadd, 1) := by decide +kernel
theorem eW_side_46 : decode prog_1_method_22_code 46 = .ok (.istore 5, 2) := by decide +kernel
theorem eW_side_48 : decode prog_1_method_22_code 48 = .ok (.iconst 0, 1) := by decide +kernel
theorem eW_side_49 : decode prog_1_method_22_code 49 = .ok (.istore 6, 2) := by decide +kernel
theorem eW_side_51 : decode prog_1_method_22_code 51 = .ok (.aload_n 0, 1) := by decide +kernel
theorem eW_side_52 : decode prog_1_method_22_code 52 = .ok (.getfield 23, 3) := by decide +kernel
theorem eW_side_55 : decode prog_1_method_22_code 55 = .ok (.aload_n 0, 1) := by decide +kernel
theorem eW_side_56 : decode prog_1_method_22_code 56 = .ok (.getfield 10, 3) := by decide +kernel
theorem eW_side_59 : decode prog_1_method_22_code 59 = .ok (.invokevirtual 183, 3) := by decide +kernel
theorem eW_side_62 : decode prog_1_method_22_code 62 = .ok (.iconst 0, 1) := by decide +kernel
theorem eW_side_63 : decode prog_1_method_22_code 63 = .ok (.istore 7, 2) := by decide +kernel
theorem eW_side_65 : decode prog_1_method_22_code 65 = .ok (.iload 7, 2) := by decide +kernel
theorem eW_side_67 : decode prog_1_method_22_code 67 = .ok (.iconst 4, 1) := by decide +kernel
theorem eW_side_68 : decode prog_1_method_22_code 68 = .ok (.if_icmp .ge 57, 3) := by decide +kernel
theorem eW_side_71 : decode prog_1_method_22_code 71 = .ok (.aload_n 0, 1) := by decide +kernel
theorem eW_side_72 : decode prog_1_method_22_code 72 = .ok (.getfield 23, 3) := by decide +kernel
theorem eW_side_75 : decode prog_1_method_22_code 75 = .ok (.iload_n 1, 1) := by decide +kernel
theorem eW_side_76 : decode prog_1_method_22_code 76 = .ok (.iconst 3, 1) := by decide +kernel
theorem eW_side_77 : decode prog_1_method_22_code 77 = .ok (.iload 7, 2) := by decide +kernel
theorem eW_side_79 : decode prog_1_method_22_code 79 = .ok (.invokevirtual 103, 3) := by decide +kernel
theorem eW_side_82 : decode prog_1_method_22_code 82 = .ok (.pop, 1) := by decide +kernel
theorem eW_side_83 : decode prog_1_method_22_code 83 = .ok (.aload_n 0, 1) := by decide +kernel
theorem eW_side_84 : decode prog_1_method_22_code 84 = .ok (.getfield 23, 3) := by decide +kernel
theorem eW_side_87 : decode prog_1_method_22_code 87 = .ok (.iload 4, 2) := by decide +kernel
theorem eW_side_89 : decode prog_1_method_22_code 89 = .ok (.iload_n 3, 1) := by decide +kernel
theorem eW_side_90 : decode prog_1_method_22_code 90 = .ok (.aload_n 0, 1) := by decide +kernel
theorem eW_side_91 : decode prog_1_method_22_code 91 = .ok (.getfield 23, 3) := by decide +kernel
theorem eW_side_94 : decode prog_1_method_22_code 94 = .ok (.getfield 56, 3) := by decide +kernel
theorem eW_side_97 : decode prog_1_method_22_code 97 = .ok (.iconst 0, 1) := by decide +kernel
theorem eW_side_98 : decode prog_1_method_22_code 98 = .ok (.iaload, 1) := by decide +kernel
theorem eW_side_99 : decode prog_1_method_22_code 99 = .ok (.invokevirtual 165, 3) := by decide +kernel
theorem eW_side_102 : decode prog_1_method_22_code 102 = .ok (.istore 8, 2) := by decide +kernel
theorem eW_side_104 : decode prog_1_method_22_code 104 = .ok (.iload 8, 2) := by decide +kernel
theorem eW_side_106 : decode prog_1_method_22_code 106 = .ok (.iload 5, 2) := by decide +kernel
theorem eW_side_108 : decode prog_1_method_22_code 108 = .ok (.if_icmp .ge 11, 3) := by decide +kernel
theorem eW_side_111 : decode prog_1_method_22_code 111 = .ok (.iload 8, 2) := by decide +kernel
theorem eW_side_113 : decode prog_1_method_22_code 113 = .ok (.istore 5, 2) := by decide +kernel
theorem eW_side_115 : decode prog_1_method_22_code 115 = .ok (.iload 7, 2) := by decide +kernel
theorem eW_side_117 : decode prog_1_method_22_code 117 = .ok (.istore 6, 2) := by decide +kernel
theorem eW_side_119 : decode prog_1_method_22_code 119 = .ok (.iinc 7 1, 3) := by decide +kernel
theorem eW_side_122 : decode prog_1_method_22_code 122 = .ok (.goto (-57), 3) := by decide +kernel
theorem eW_side_125 : decode prog_1_method_22_code 125 = .ok (.iload 6, 2) := by decide +kernel
theorem eW_side_127 : decode prog_1_method_22_code 127 = .ok (.ireturn, 1) := by decide +kernel
theorem eP_become_0 : decode prog_2_method_2_code 0 = .ok (.aload_n 0, 1) := by decide +kernel
theorem eP_become_1 : decode prog_2_method_2_code 1 = .ok (.aload_n 1, 1) := by decide +kernel
theorem eP_become_2 : decode prog_2_method_2_code 2 = .ok (.getfield 9, 3) := by decide +kernel
theorem eP_become_5 : decode prog_2_method_2_code 5 = .ok (.putfield 9, 3) := by decide +kernel
theorem eP_become_8 : decode prog_2_method_2_code 8 = .ok (.aload_n 1, 1) := by decide +kernel
theorem eP_become_9 : decode prog_2_method_2_code 9 = .ok (.getfield 15, 3) := by decide +kernel
theorem eP_become_12 : decode prog_2_method_2_code 12 = .ok (.iconst 0, 1) := by decide +kernel
theorem eP_become_13 : decode prog_2_method_2_code 13 = .ok (.aload_n 0, 1) := by decide +kernel
theorem eP_become_14 : decode prog_2_method_2_code 14 = .ok (.getfield 15, 3) := by decide +kernel
theorem eP_become_17 : decode prog_2_method_2_code 17 = .ok (.iconst 0, 1) := by decide +kernel
theorem eP_become_18 : decode prog_2_method_2_code 18 = .ok (.iconst 4, 1) := by decide +kernel
theorem eP_become_19 : decode prog_2_method_2_code 19 = .ok (.invokestatic 30, 3) := by decide +kernel
theorem eP_become_22 : decode prog_2_method_2_code 22 = .ok (.aload_n 0, 1) := by decide +kernel
theorem eP_become_23 : decode prog_2_method_2_code 23 = .ok (.aload_n 1, 1) := by decide +kernel
theorem eP_become_24 : decode prog_2_method_2_code 24 = .ok (.getfield 19, 3) := by decide +kernel
theorem eP_become_27 : decode prog_2_method_2_code 27 = .ok (.putfield 19, 3) := by decide +kernel
theorem eP_become_30 : decode prog_2_method_2_code 30 = .ok (.iconst 0, 1) := by decide +kernel
theorem eP_become_31 : decode prog_2_method_2_code 31 = .ok (.istore_n 2, 1) := by decide +kernel
theorem eP_become_32 : decode prog_2_method_2_code 32 = .ok (.iload_n 2, 1) := by decide +kernel
theorem eP_become_33 : decode prog_2_method_2_code 33 = .ok (.aload_n 0, 1) := by decide +kernel
theorem eP_become_34 : decode prog_2_method_2_code 34 = .ok (.getfield 19, 3) := by decide +kernel
theorem eP_become_37 : decode prog_2_method_2_code 37 = .ok (.if_icmp .ge 28, 3) := by decide +kernel
theorem eP_become_40 : decode prog_2_method_2_code 40 = .ok (.aload_n 1, 1) := by decide +kernel
theorem eP_become_41 : decode prog_2_method_2_code 41 = .ok (.getfield 24, 3) := by decide +kernel
theorem eP_become_44 : decode prog_2_method_2_code 44 = .ok (.iload_n 2, 1) := by decide +kernel
theorem eP_become_45 : decode prog_2_method_2_code 45 = .ok (.aaload, 1) := by decide +kernel
theorem eP_become_46 : decode prog_2_method_2_code 46 = .ok (.iconst 0, 1) := by decide +kernel
theorem eP_become_47 : decode prog_2_method_2_code 47 = .ok (.aload_n 0, 1) := by decide +kernel
theorem eP_become_48 : decode prog_2_method_2_code 48 = .ok (.getfield 24, 3) := by decide +kernel
theorem eP_become_51 : decode prog_2_method_2_code 51 = .ok (.iload_n 2, 1) := by decide +kernel
theorem eP_become_52 : decode prog_2_method_2_code 52 = .ok (.aaload, 1) := by decide +kernel
theorem eP_become_53 : decode prog_2_method_2_code 53 = .ok (.iconst 0, 1) := by decide +kernel
theorem eP_become_54 : decode prog_2_method_2_code 54 = .ok (.bipush 6, 2) := by decide +kernel
theorem eP_become_56 : decode prog_2_method_2_code 56 = .ok (.invokestatic 30, 3) := by decide +kernel
theorem eP_become_59 : decode prog_2_method_2_code 59 = .ok (.iinc 2 1, 3) := by decide +kernel
theorem eP_become_62 : decode prog_2_method_2_code 62 = .ok (.goto (-30), 3) := by decide +kernel
theorem eP_become_65 : decode prog_2_method_2_code 65 = .ok (.return_, 1) := by decide +kernel
theorem eW_lost_0 : decode prog_1_method_23_code 0 = .ok (.iload_n 1, 1) := by decide +kernel
theorem eW_lost_1 : decode prog_1_method_23_code 1 = .ok (.invokestatic 63, 3) := by decide +kernel
theorem eW_lost_4 : decode prog_1_method_23_code 4 = .ok (.ifCond .eq 10, 3) := by decide +kernel
theorem eW_lost_7 : decode prog_1_method_23_code 7 = .ok (.iload_n 2, 1) := by decide +kernel
theorem eW_lost_8 : decode prog_1_method_23_code 8 = .ok (.invokestatic 131, 3) := by decide +kernel
theorem eW_lost_11 : decode prog_1_method_23_code 11 = .ok (.ifCond .ne 10, 3) := by decide +kernel
theorem eW_lost_14 : decode prog_1_method_23_code 14 = .ok (.aload_n 0, 1) := by decide +kernel
theorem eW_lost_15 : decode prog_1_method_23_code 15 = .ok (.ldc 51, 2) := by decide +kernel
theorem eW_lost_17 : decode prog_1_method_23_code 17 = .ok (.invokevirtual 52, 3) := by decide +kernel
theorem eW_lost_20 : decode prog_1_method_23_code 20 = .ok (.ireturn, 1) := by decide +kernel
theorem eW_lost_21 : decode prog_1_method_23_code 21 = .ok (.aload_n 0, 1) := by decide +kernel
theorem eW_lost_22 : decode prog_1_method_23_code 22 = .ok (.getfield 23, 3) := by decide +kernel
theorem eW_lost_25 : decode prog_1_method_23_code 25 = .ok (.aload_n 0, 1) := by decide +kernel
theorem eW_lost_26 : decode prog_1_method_23_code 26 = .ok (.getfield 10, 3) := by decide +kernel
theorem eW_lost_29 : decode prog_1_method_23_code 29 = .ok (.invokevirtual 183, 3) := by decide +kernel
theorem eW_lost_32 : decode prog_1_method_23_code 32 = .ok (.aload_n 0, 1) := by decide +kernel
theorem eW_lost_33 : decode prog_1_method_23_code 33 = .ok (.getfield 23, 3) := by decide +kernel
theorem eW_lost_36 : decode prog_1_method_23_code 36 = .ok (.iload_n 1, 1) := by decide +kernel
theorem eW_lost_37 : decode prog_1_method_23_code 37 = .ok (.iload_n 2, 1) := by decide +kernel
theorem eW_lost_38 : decode prog_1_method_23_code 38 = .ok (.invokevirtual 139, 3) := by decide +kernel
theorem eW_lost_41 : decode prog_1_method_23_code 41 = .ok (.pop, 1) := by decide +kernel
theorem eW_lost_42 : decode prog_1_method_23_code 42 = .ok (.aload_n 0, 1) := by decide +kernel
theorem eW_lost_43 : decode prog_1_method_23_code 43 = .ok (.getfield 23, 3) := by decide +kernel
theorem eW_lost_46 : decode prog_1_method_23_code 46 = .ok (.getfield 187, 3) := by decide +kernel
theorem eW_lost_49 : decode prog_1_method_23_code 49 = .ok (.ireturn, 1) := by decide +kernel
theorem eW_best_0 : decode prog_1_method_24_code 0 = .ok (.iload_n 1, 1) := by decide +kernel
theorem eW_best_1 : decode prog_1_method_24_code 1 = .ok (.invokestatic 131, 3) := by decide +kernel
theorem eW_best_4 : decode prog_1_method_24_code 4 = .ok (.ifCond .ne 10, 3) := by decide +kernel
theorem eW_best_7 : decode prog_1_method_24_code 7 = .ok (.aload_n 0, 1) := by decide +kernel
theorem eW_best_8 : decode prog_1_method_24_code 8 = .ok (.ldc 51, 2) := by decide +kernel
theorem eW_best_10 : decode prog_1_method_24_code 10 = .ok (.invokevirtual 52, 3) := by decide +kernel
theorem eW_best_13 : decode prog_1_method_24_code 13 = .ok (.ireturn, 1) := by decide +kernel
theorem eW_best_14 : decode prog_1_method_24_code 14 = .ok (.sipush 161, 3) := by decide +kernel
theorem eW_best_17 : decode prog_1_method_24_code 17 = .ok (.istore_n 2, 1) := by decide +kernel
theorem eW_best_18 : decode prog_1_method_24_code 18 = .ok (.iconst 0, 1) := by decide +kernel
theorem eW_best_19 : decode prog_1_method_24_code 19 = .ok (.istore_n 3, 1) := by decide +kernel
theorem eW_best_20 : decode prog_1_method_24_code 20 = .ok (.iconst 0, 1) := by decide +kernel
theorem eW_best_21 : decode prog_1_method_24_code 21 = .ok (.istore 4, 2) := by decide +kernel
theorem eW_best_23 : decode prog_1_method_24_code 23 = .ok (.iload 4, 2) := by decide +kernel
theorem eW_best_25 : decode prog_1_method_24_code 25 = .ok (.bipush 10, 2) := by decide +kernel
theorem eW_best_27 : decode prog_1_method_24_code 27 = .ok (.if_icmp .ge 44, 3) := by decide +kernel
theorem eW_best_30 : decode prog_1_method_24_code 30 = .ok (.aload_n 0, 1) := by decide +kernel
theorem eW_best_31 : decode prog_1_method_24_code 31 = .ok (.getfield 23, 3) := by decide +kernel
theorem eW_best_34 : decode prog_1_method_24_code 34 = .ok (.aload_n 0, 1) := by decide +kernel
theorem eW_best_35 : decode prog_1_method_24_code 35 = .ok (.getfield 10, 3) := by decide +kernel
theorem eW_best_38 : decode prog_1_method_24_code 38 = .ok (.invokevirtual 183, 3) := by decide +kernel
theorem eW_best_41 : decode prog_1_method_24_code 41 = .ok (.aload_n 0, 1) := by decide +kernel
theorem eW_best_42 : decode prog_1_method_24_code 42 = .ok (.getfield 23, 3) := by decide +kernel
theorem eW_best_45 : decode prog_1_method_24_code 45 = .ok (.iload 4, 2) := by decide +kernel
theorem eW_best_47 : decode prog_1_method_24_code 47 = .ok (.iload_n 1, 1) := by decide +kernel
theorem eW_best_48 : decode prog_1_method_24_code 48 = .ok (.invokevirtual 139, 3) := by decide +kernel
theorem eW_best_51 : decode prog_1_method_24_code 51 = .ok (.istore 5, 2) := by decide +kernel
theorem eW_best_53 : decode prog_1_method_24_code 53 = .ok (.iload 5, 2) := by decide +kernel
theorem eW_best_55 : decode prog_1_method_24_code 55 = .ok (.iload_n 2, 1) := by decide +kernel
theorem eW_best_56 : decode prog_1_method_24_code 56 = .ok (.if_icmp .ge 9, 3) := by decide +kernel
theorem eW_best_59 : decode prog_1_method_24_code 59 = .ok (.iload 5, 2) := by decide +kernel
theorem eW_best_61 : decode prog_1_method_24_code 61 = .ok (.istore_n 2, 1) := by decide +kernel
theorem eW_best_62 : decode prog_1_method_24_code 62 = .ok (.iload 4, 2) := by decide +kernel
theorem eW_best_64 : decode prog_1_method_24_code 64 = .ok (.istore_n 3, 1) := by decide +kernel
theorem eW_best_65 : decode prog_1_method_24_code 65 = .ok (.iinc 4 1, 3) := by decide +kernel
theorem eW_best_68 : decode prog_1_method_24_code 68 = .ok (.goto (-45), 3) := by decide +kernel
theorem eW_best_71 : decode prog_1_method_24_code 71 = .ok (.iload_n 3, 1) := by decide +kernel
theorem eW_best_72 : decode prog_1_method_24_code 72 = .ok (.ireturn, 1) := by decide +kernel
theorem eW_image_0 : decode prog_1_method_34_code 0 = .ok (.aload_n 0, 1) := by decide +kernel
theorem eW_image_1 : decode prog_1_method_34_code 1 = .ok (.getfield 16, 3) := by decide +kernel
theorem eW_image_4 : decode prog_1_method_34_code 4 = .ok (.aload_n 0, 1) := by decide +kernel
theorem eW_image_5 : decode prog_1_method_34_code 5 = .ok (.getfield 10, 3) := by decide +kernel
theorem eW_image_8 : decode prog_1_method_34_code 8 = .ok (.invokevirtual 183, 3) := by decide +kernel
theorem eW_image_11 : decode prog_1_method_34_code 11 = .ok (.aload_n 0, 1) := by decide +kernel
theorem eW_image_12 : decode prog_1_method_34_code 12 = .ok (.iconst 1, 1) := by decide +kernel
theorem eW_image_13 : decode prog_1_method_34_code 13 = .ok (.putfield 19, 3) := by decide +kernel
theorem eW_image_16 : decode prog_1_method_34_code 16 = .ok (.iconst 1, 1) := by decide +kernel
theorem eW_image_17 : decode prog_1_method_34_code 17 = .ok (.ireturn, 1) := by decide +kernel
theorem eW_undo_0 : decode prog_1_method_35_code 0 = .ok (.aload_n 0, 1) := by decide +kernel
theorem eW_undo_1 : decode prog_1_method_35_code 1 = .ok (.getfield 19, 3) := by decide +kernel
theorem eW_undo_4 : decode prog_1_method_35_code 4 = .ok (.ifCond .ne 10, 3) := by decide +kernel
theorem eW_undo_7 : decode prog_1_method_35_code 7 = .ok (.aload_n 0, 1) := by decide +kernel
theorem eW_undo_8 : decode prog_1_method_35_code 8 = .ok (.ldc 118, 2) := by decide +kernel
theorem eW_undo_10 : decode prog_1_method_35_code 10 = .ok (.invokevirtual 52, 3) := by decide +kernel
theorem eW_undo_13 : decode prog_1_method_35_code 13 = .ok (.ireturn, 1) := by decide +kernel
theorem eW_undo_14 : decode prog_1_method_35_code 14 = .ok (.aload_n 0, 1) := by decide +kernel
theorem eW_undo_15 : decode prog_1_method_35_code 15 = .ok (.getfield 10, 3) := by decide +kernel
theorem eW_undo_18 : decode prog_1_method_35_code 18 = .ok (.aload_n 0, 1) := by decide +kernel
theorem eW_undo_19 : decode prog_1_method_35_code 19 = .ok (.getfield 16, 3) := by decide +kernel
theorem eW_undo_22 : decode prog_1_method_35_code 22 = .ok (.invokevirtual 183, 3) := by decide +kernel
theorem eW_undo_25 : decode prog_1_method_35_code 25 = .ok (.aload_n 0, 1) := by decide +kernel
theorem eW_undo_26 : decode prog_1_method_35_code 26 = .ok (.getfield 10, 3) := by decide +kernel
theorem eW_undo_29 : decode prog_1_method_35_code 29 = .ok (.getfield 168, 3) := by decide +kernel
theorem eW_undo_32 : decode prog_1_method_35_code 32 = .ok (.ireturn, 1) := by decide +kernel
theorem eW_wall_0 : decode prog_1_method_3_code 0 = .ok (.iload_n 1, 1) := by decide +kernel
theorem eW_wall_1 : decode prog_1_method_3_code 1 = .ok (.invokestatic 59, 3) := by decide +kernel
theorem eW_wall_4 : decode prog_1_method_3_code 4 = .ok (.ifCond .eq 17, 3) := by decide +kernel
theorem eW_wall_7 : decode prog_1_method_3_code 7 = .ok (.iload_n 2, 1) := by decide +kernel
theorem eW_wall_8 : decode prog_1_method_3_code 8 = .ok (.invokestatic 63, 3) := by decide +kernel
theorem eW_wall_11 : decode prog_1_method_3_code 11 = .ok (.ifCond .eq 10, 3) := by decide +kernel
theorem eW_wall_14 : decode prog_1_method_3_code 14 = .ok (.iload_n 3, 1) := by decide +kernel
theorem eW_wall_15 : decode prog_1_method_3_code 15 = .ok (.invokestatic 63, 3) := by decide +kernel
theorem eW_wall_18 : decode prog_1_method_3_code 18 = .ok (.ifCond .ne 10, 3) := by decide +kernel
theorem eW_wall_21 : decode prog_1_method_3_code 21 = .ok (.aload_n 0, 1) := by decide +kernel
theorem eW_wall_22 : decode prog_1_method_3_code 22 = .ok (.ldc 51, 2) := by decide +kernel
theorem eW_wall_24 : decode prog_1_method_3_code 24 = .ok (.invokevirtual 52, 3) := by decide +kernel
theorem eW_wall_27 : decode prog_1_method_3_code 27 = .ok (.ireturn, 1) := by decide +kernel
theorem eW_wall_28 : decode prog_1_method_3_code 28 = .ok (.aload_n 0, 1) := by decide +kernel
theorem eW_wall_29 : decode prog_1_method_3_code 29 = .ok (.getfield 10, 3) := by decide +kernel
theorem eW_wall_32 : decode prog_1_method_3_code 32 = .ok (.invokevirtual 66, 3) := by decide +kernel
theorem eW_wall_35 : decode prog_1_method_3_code 35 = .ok (.ifCond .eq 10, 3) := by decide +kernel
theorem eW_wall_38 : decode prog_1_method_3_code 38 = .ok (.aload_n 0, 1) := by decide +kernel
theorem eW_wall_39 : decode prog_1_method_3_code 39 = .ok (.ldc 70, 2) := by decide +kernel
theorem eW_wall_41 : decode prog_1_method_3_code 41 = .ok (.invokevirtual 52, 3) := by decide +kernel
theorem eW_wall_44 : decode prog_1_method_3_code 44 = .ok (.ireturn, 1) := by decide +kernel
theorem eW_wall_45 : decode prog_1_method_3_code 45 = .ok (.aload_n 0, 1) := by decide +kernel
theorem eW_wall_46 : decode prog_1_method_3_code 46 = .ok (.getfield 10, 3) := by decide +kernel
theorem eW_wall_49 : decode prog_1_method_3_code 49 = .ok (.iload_n 1, 1) := by decide +kernel
theorem eW_wall_50 : decode prog_1_method_3_code 50 = .ok (.iload_n 2, 1) := by decide +kernel
theorem eW_wall_51 : decode prog_1_method_3_code 51 = .ok (.iload_n 3, 1) := by decide +kernel
theorem eW_wall_52 : decode prog_1_method_3_code 52 = .ok (.iconst 0, 1) := by decide +kernel
theorem eW_wall_53 : decode prog_1_method_3_code 53 = .ok (.invokevirtual 71, 3) := by decide +kernel
theorem eW_wall_56 : decode prog_1_method_3_code 56 = .ok (.ireturn, 1) := by decide +kernel
theorem eW_isKind_0 : decode prog_1_method_47_code 0 = .ok (.iload_n 0, 1) := by decide +kernel
theorem eW_isKind_1 : decode prog_1_method_47_code 1 = .ok (.iconst 0, 1) := by decide +kernel
theorem eW_isKind_2 : decode prog_1_method_47_code 2 = .ok (.iconst 5, 1) := by decide +kernel
theorem eW_isKind_3 : decode prog_1_method_47_code 3 = .ok (.invokestatic 82, 3) := by decide +kernel
theorem eW_isKind_6 : decode prog_1_method_47_code 6 = .ok (.ireturn, 1) := by decide +kernel
theorem eP_isBuiltUp_0 : decode prog_2_method_3_code 0 = .ok (.aload_n 0, 1) := by decide +kernel
theorem eP_isBuiltUp_1 : decode prog_2_method_3_code 1 = .ok (.getfield 19, 3) := by decide +kernel
theorem eP_isBuiltUp_4 : decode prog_2_method_3_code 4 = .ok (.bipush 10, 2) := by decide +kernel
theorem eP_isBuiltUp_6 : decode prog_2_method_3_code 6 = .ok (.if_icmp .lt 7, 3) := by decide +kernel
theorem eP_isBuiltUp_9 : decode prog_2_method_3_code 9 = .ok (.iconst 1, 1) := by decide +kernel
theorem eP_isBuiltUp_10 : decode prog_2_method_3_code 10 = .ok (.goto 4, 3) := by decide +kernel
theorem eP_isBuiltUp_13 : decode prog_2_method_3_code 13 = .ok (.iconst 0, 1) := by decide +kernel
theorem eP_isBuiltUp_14 : decode prog_2_method_3_code 14 = .ok (.ireturn, 1) := by decide +kernel
theorem eP_build_0 : decode prog_2_method_4_code 0 = .ok (.aload_n 0, 1) := by decide +kernel
theorem eP_build_1 : decode prog_2_method_4_code 1 = .ok (.getfield 24, 3) := by decide +kernel
theorem eP_build_4 : decode prog_2_method_4_code 4 = .ok (.aload_n 0, 1) := by decide +kernel
theorem eP_build_5 : decode prog_2_method_4_code 5 = .ok (.getfield 19, 3) := by decide +kernel
theorem eP_build_8 : decode prog_2_method_4_code 8 = .ok (.aaload, 1) := by decide +kernel
theorem eP_build_9 : decode prog_2_method_4_code 9 = .ok (.astore 5, 2) := by decide +kernel
theorem eP_build_11 : decode prog_2_method_4_code 11 = .ok (.aload 5, 2) := by decide +kernel
theorem eP_build_13 : decode prog_2_method_4_code 13 = .ok (.iconst 0, 1) := by decide +kernel
theorem eP_build_14 : decode prog_2_method_4_code 14 = .ok (.iload_n 1, 1) := by decide +kernel
theorem eP_build_15 : decode prog_2_method_4_code 15 = .ok (.iastore, 1) := by decide +kernel
theorem eP_build_16 : decode prog_2_method_4_code 16 = .ok (.aload 5, 2) := by decide +kernel
theorem eP_build_18 : decode prog_2_method_4_code 18 = .ok (.iconst 1, 1) := by decide +kernel
theorem eP_build_19 : decode prog_2_method_4_code 19 = .ok (.iload_n 2, 1) := by decide +kernel
theorem eP_build_20 : decode prog_2_method_4_code 20 = .ok (.iastore, 1) := by decide +kernel
theorem eP_build_21 : decode prog_2_method_4_code 21 = .ok (.aload 5, 2) := by decide +kernel
theorem eP_build_23 : decode prog_2_method_4_code 23 = .ok (.iconst 2, 1) := by decide +kernel
theorem eP_build_24 : decode prog_2_method_4_code 24 = .ok (.iload_n 3, 1) := by decide +kernel
theorem eP_build_25 : decode prog_2_method_4_code 25 = .ok (.iastore, 1) := by decide +kernel
theorem eP_build_26 : decode prog_2_method_4_code 26 = .ok (.aload 5, 2) := by decide +kernel
theorem eP_build_28 : decode prog_2_method_4_code 28 = .ok (.iconst 3, 1) := by decide +kernel
theorem eP_build_29 : decode prog_2_method_4_code 29 = .ok (.iload 4, 2) := by decide +kernel
theorem eP_build_31 : decode prog_2_method_4_code 31 = .ok (.iastore, 1) := by decide +kernel
theorem eP_build_32 : decode prog_2_method_4_code 32 = .ok (.aload 5, 2) := by decide +kernel
theorem eP_build_34 : decode prog_2_method_4_code 34 = .ok (.iconst 4, 1) := by decide +kernel
theorem eP_build_35 : decode prog_2_method_4_code 35 = .ok (.iconst 0, 1) := by decide +kernel
theorem eP_build_36 : decode prog_2_method_4_code 36 = .ok (.iastore, 1) := by decide +kernel
theorem eP_build_37 : decode prog_2_method_4_code 37 = .ok (.aload 5, 2) := by decide +kernel
theorem eP_build_39 : decode prog_2_method_4_code 39 = .ok (.iconst 5, 1) := by decide +kernel
theorem eP_build_40 : decode prog_2_method_4_code 40 = .ok (.iconst 0, 1) := by decide +kernel
theorem eP_build_41 : decode prog_2_method_4_code 41 = .ok (.iastore, 1) := by decide +kernel
theorem eP_build_42 : decode prog_2_method_4_code 42 = .ok (.aload_n 0, 1) := by decide +kernel
theorem eP_build_43 : decode prog_2_method_4_code 43 = .ok (.dup, 1) := by decide +kernel
theorem eP_build_44 : decode prog_2_method_4_code 44 = .ok (.getfield 19, 3) := by decide +kernel
theorem eP_build_47 : decode prog_2_method_4_code 47 = .ok (.dup_x1, 1) := by decide +kernel
theorem eP_build_48 : decode prog_2_method_4_code 48 = .ok (.iconst 1, 1) := by decide +kernel
theorem eP_build_49 : decode prog_2_method_4_code 49 = .ok (.iadd, 1) := by decide +kernel
theorem eP_build_50 : decode prog_2_method_4_code 50 = .ok (.putfield 19, 3) := by decide +kernel
theorem eP_build_53 : decode prog_2_method_4_code 53 = .ok (.ireturn, 1) := by decide +kernel
theorem eW_of_0 : decode prog_1_method_4_code 0 = .ok (.aload_n 0, 1) := by decide +kernel
theorem eW_of_1 : decode prog_1_method_4_code 1 = .ok (.iload_n 1, 1) := by decide +kernel
theorem eW_of_2 : decode prog_1_method_4_code 2 = .ok (.invokevirtual 75, 3) := by decide +kernel
theorem eW_of_5 : decode prog_1_method_4_code 5 = .ok (.ifCond .ne 10, 3) := by decide +kernel
theorem eW_of_8 : decode prog_1_method_4_code 8 = .ok (.aload_n 0, 1) := by decide +kernel
theorem eW_of_9 : decode prog_1_method_4_code 9 = .ok (.ldc 51, 2) := by decide +kernel
theorem eW_of_11 : decode prog_1_method_4_code 11 = .ok (.invokevirtual 52, 3) := by decide +kernel
theorem eW_of_14 : decode prog_1_method_4_code 14 = .ok (.ireturn, 1) := by decide +kernel
theorem eW_of_15 : decode prog_1_method_4_code 15 = .ok (.aload_n 0, 1) := by decide +kernel
theorem eW_of_16 : decode prog_1_method_4_code 16 = .ok (.getfield 10, 3) := by decide +kernel
theorem eW_of_19 : decode prog_1_method_4_code 19 = .ok (.getfield 78, 3) := by decide +kernel
theorem eW_of_22 : decode prog_1_method_4_code 22 = .ok (.iload_n 1, 1) := by decide +kernel
theorem eW_of_23 : decode prog_1_method_4_code 23 = .ok (.aaload, 1) := by decide +kernel
theorem eW_of_24 : decode prog_1_method_4_code 24 = .ok (.astore_n 3, 1) := by decide +kernel
theorem eW_of_25 : decode prog_1_method_4_code 25 = .ok (.iload_n 2, 1) := by decide +kernel
theorem eW_of_26 : decode prog_1_method_4_code 26 = .ok (.iconst 0, 1) := by decide +kernel
theorem eW_of_27 : decode prog_1_method_4_code 27 = .ok (.iconst 5, 1) := by decide +kernel
theorem eW_of_28 : decode prog_1_method_4_code 28 = .ok (.invokestatic 82, 3) := by decide +kernel
theorem eW_of_31 : decode prog_1_method_4_code 31 = .ok (.ifCond .eq 7, 3) := by decide +kernel
theorem eW_of_34 : decode prog_1_method_4_code 34 = .ok (.aload_n 3, 1) := by decide +kernel
theorem eW_of_35 : decode prog_1_method_4_code 35 = .ok (.iload_n 2, 1) := by decide +kernel
theorem eW_of_36 : decode prog_1_method_4_code 36 = .ok (.iaload, 1) := by decide +kernel
theorem eW_of_37 : decode prog_1_method_4_code 37 = .ok (.ireturn, 1) := by decide +kernel
theorem eW_of_38 : decode prog_1_method_4_code 38 = .ok (.iload_n 2, 1) := by decide +kernel
theorem eW_of_39 : decode prog_1_method_4_code 39 = .ok (.tableswitch 73 6 8 #[25, 49, 66], 25) := by decide +kernel
theorem eW_of_64 : decode prog_1_method_4_code 64 = .ok (.aload_n 0, 1) := by decide +kernel
theorem eW_of_65 : decode prog_1_method_4_code 65 = .ok (.getfield 10, 3) := by decide +kernel
theorem eW_of_68 : decode prog_1_method_4_code 68 = .ok (.iload_n 1, 1) := by decide +kernel
theorem eW_of_69 : decode prog_1_method_4_code 69 = .ok (.aload_n 0, 1) := by decide +kernel
theorem eW_of_70 : decode prog_1_method_4_code 70 = .ok (.getfield 10, 3) := by decide +kernel
theorem eW_of_73 : decode prog_1_method_4_code 73 = .ok (.getfield 86, 3) := by decide +kernel
theorem eW_of_76 : decode prog_1_method_4_code 76 = .ok (.invokevirtual 90, 3) := by decide +kernel
theorem eW_of_79 : decode prog_1_method_4_code 79 = .ok (.ifCond .eq 7, 3) := by decide +kernel
theorem eW_of_82 : decode prog_1_method_4_code 82 = .ok (.iconst 1, 1) := by decide +kernel
theorem eW_of_83 : decode prog_1_method_4_code 83 = .ok (.goto 4, 3) := by decide +kernel
theorem eW_of_86 : decode prog_1_method_4_code 86 = .ok (.iconst 0, 1) := by decide +kernel
theorem eW_of_87 : decode prog_1_method_4_code 87 = .ok (.ireturn, 1) := by decide +kernel
theorem eW_of_88 : decode prog_1_method_4_code 88 = .ok (.aload_n 0, 1) := by decide +kernel
theorem eW_of_89 : decode prog_1_method_4_code 89 = .ok (.getfield 10, 3) := by decide +kernel
theorem eW_of_92 : decode prog_1_method_4_code 92 = .ok (.aload_n 3, 1) := by decide +kernel
theorem eW_of_93 : decode prog_1_method_4_code 93 = .ok (.invokevirtual 93, 3) := by decide +kernel
theorem eW_of_96 : decode prog_1_method_4_code 96 = .ok (.ifCond .eq 7, 3) := by decide +kernel
theorem eW_of_99 : decode prog_1_method_4_code 99 = .ok (.iconst 1, 1) := by decide +kernel
theorem eW_of_100 : decode prog_1_method_4_code 100 = .ok (.goto 4, 3) := by decide +kernel
theorem eW_of_103 : decode prog_1_method_4_code 103 = .ok (.iconst 0, 1) := by decide +kernel
theorem eW_of_104 : decode prog_1_method_4_code 104 = .ok (.ireturn, 1) := by decide +kernel
theorem eW_of_105 : decode prog_1_method_4_code 105 = .ok (.aload_n 3, 1) := by decide +kernel
theorem eW_of_106 : decode prog_1_method_4_code 106 = .ok (.iconst 0, 1) := by decide +kernel
theorem eW_of_107 : decode prog_1_method_4_code 107 = .ok (.iaload, 1) := by decide +kernel
theorem eW_of_108 : decode prog_1_method_4_code 108 = .ok (.invokestatic 97, 3) := by decide +kernel
theorem eW_of_111 : decode prog_1_method_4_code 111 = .ok (.ireturn, 1) := by decide +kernel
theorem eW_of_112 : decode prog_1_method_4_code 112 = .ok (.aload_n 0, 1) := by decide +kernel
theorem eW_of_113 : decode prog_1_method_4_code 113 = .ok (.ldc 51, 2) := by decide +kernel
theorem eW_of_115 : decode prog_1_method_4_code 115 = .ok (.invokevirtual 52, 3) := by decide +kernel
theorem eW_of_118 : decode prog_1_method_4_code 118 = .ok (.ireturn, 1) := by decide +kernel
theorem eP_dutyOf_0 : decode prog_2_method_8_code 0 = .ok (.aload_n 0, 1) := by decide +kernel
theorem eP_dutyOf_1 : decode prog_2_method_8_code 1 = .ok (.iload_n 2, 1) := by decide +kernel
theorem eP_dutyOf_2 : decode prog_2_method_8_code 2 = .ok (.aload_n 0, 1) := by decide +kernel
theorem eP_dutyOf_3 : decode prog_2_method_8_code 3 = .ok (.getfield 15, 3) := by decide +kernel
theorem eP_dutyOf_6 : decode prog_2_method_8_code 6 = .ok (.iconst 0, 1) := by decide +kernel
theorem eP_dutyOf_7 : decode prog_2_method_8_code 7 = .ok (.iaload, 1) := by decide +kernel
theorem eP_dutyOf_8 : decode prog_2_method_8_code 8 = .ok (.invokevirtual 36, 3) := by decide +kernel
theorem eP_dutyOf_11 : decode prog_2_method_8_code 11 = .ok (.iload_n 1, 1) := by decide +kernel
theorem eP_dutyOf_12 : decode prog_2_method_8_code 12 = .ok (.ishr, 1) := by decide +kernel
theorem eP_dutyOf_13 : decode prog_2_method_8_code 13 = .ok (.iconst 1, 1) := by decide +kernel
theorem eP_dutyOf_14 : decode prog_2_method_8_code 14 = .ok (.iand, 1) := by decide +kernel
theorem eP_dutyOf_15 : decode prog_2_method_8_code 15 = .ok (.iconst 1, 1) := by decide +kernel
theorem eP_dutyOf_16 : decode prog_2_method_8_code 16 = .ok (.if_icmp .ne 7, 3) := by decide +kernel
theorem eP_dutyOf_19 : decode prog_2_method_8_code 19 = .ok (.iconst 1, 1) := by decide +kernel
theorem eP_dutyOf_20 : decode prog_2_method_8_code 20 = .ok (.goto 4, 3) := by decide +kernel
theorem eP_dutyOf_23 : decode prog_2_method_8_code 23 = .ok (.iconst 0, 1) := by decide +kernel
theorem eP_dutyOf_24 : decode prog_2_method_8_code 24 = .ok (.ireturn, 1) := by decide +kernel
theorem eW_reach_0 : decode prog_1_method_12_code 0 = .ok (.iload_n 1, 1) := by decide +kernel
theorem eW_reach_1 : decode prog_1_method_12_code 1 = .ok (.invokestatic 63, 3) := by decide +kernel
theorem eW_reach_4 : decode prog_1_method_12_code 4 = .ok (.ifCond .eq 14, 3) := by decide +kernel
theorem eW_reach_7 : decode prog_1_method_12_code 7 = .ok (.aload_n 0, 1) := by decide +kernel
theorem eW_reach_8 : decode prog_1_method_12_code 8 = .ok (.getfield 10, 3) := by decide +kernel
theorem eW_reach_11 : decode prog_1_method_12_code 11 = .ok (.iload_n 1, 1) := by decide +kernel
theorem eW_reach_12 : decode prog_1_method_12_code 12 = .ok (.invokevirtual 142, 3) := by decide +kernel
theorem eW_reach_15 : decode prog_1_method_12_code 15 = .ok (.goto 9, 3) := by decide +kernel
theorem eW_reach_18 : decode prog_1_method_12_code 18 = .ok (.aload_n 0, 1) := by decide +kernel
theorem eW_reach_19 : decode prog_1_method_12_code 19 = .ok (.ldc 51, 2) := by decide +kernel
theorem eW_reach_21 : decode prog_1_method_12_code 21 = .ok (.invokevirtual 52, 3) := by decide +kernel
theorem eW_reach_24 : decode prog_1_method_12_code 24 = .ok (.ireturn, 1) := by decide +kernel
theorem eW_count_0 : decode prog_1_method_37_code 0 = .ok (.iload_n 1, 1) := by decide +kernel
theorem eW_count_1 : decode prog_1_method_37_code 1 = .ok (.tableswitch 63 0 3 #[31, 39, 47, 55], 31) := by decide +kernel
theorem eW_count_32 : decode prog_1_method_37_code 32 = .ok (.aload_n 0, 1) := by decide +kernel
theorem eW_count_33 : decode prog_1_method_37_code 33 = .ok (.getfield 10, 3) := by decide +kernel
theorem eW_count_36 : decode prog_1_method_37_code 36 = .ok (.getfield 168, 3) := by decide +kernel
theorem eW_count_39 : decode prog_1_method_37_code 39 = .ok (.ireturn, 1) := by decide +kernel
theorem eW_count_40 : decode prog_1_method_37_code 40 = .ok (.aload_n 0, 1) := by decide +kernel
theorem eW_count_41 : decode prog_1_method_37_code 41 = .ok (.getfield 29, 3) := by decide +kernel
theorem eW_count_44 : decode prog_1_method_37_code 44 = .ok (.getfield 190, 3) := by decide +kernel
theorem eW_count_47 : decode prog_1_method_37_code 47 = .ok (.ireturn, 1) := by decide +kernel
theorem eW_count_48 : decode prog_1_method_37_code 48 = .ok (.aload_n 0, 1) := by decide +kernel
theorem eW_count_49 : decode prog_1_method_37_code 49 = .ok (.getfield 10, 3) := by decide +kernel
theorem eW_count_52 : decode prog_1_method_37_code 52 = .ok (.invokevirtual 241, 3) := by decide +kernel
theorem eW_count_55 : decode prog_1_method_37_code 55 = .ok (.ireturn, 1) := by decide +kernel
theorem eW_count_56 : decode prog_1_method_37_code 56 = .ok (.aload_n 0, 1) := by decide +kernel
theorem eW_count_57 : decode prog_1_method_37_code 57 = .ok (.getfield 10, 3) := by decide +kernel
theorem eW_count_60 : decode prog_1_method_37_code 60 = .ok (.invokevirtual 244, 3) := by decide +kernel
theorem eW_count_63 : decode prog_1_method_37_code 63 = .ok (.ireturn, 1) := by decide +kernel
theorem eW_count_64 : decode prog_1_method_37_code 64 = .ok (.aload_n 0, 1) := by decide +kernel
theorem eW_count_65 : decode prog_1_method_37_code 65 = .ok (.ldc 51, 2) := by decide +kernel
theorem eW_count_67 : decode prog_1_method_37_code 67 = .ok (.invokevirtual 52, 3) := by decide +kernel
theorem eW_count_70 : decode prog_1_method_37_code 70 = .ok (.ireturn, 1) := by decide +kernel
theorem eP_wordsCountedEach_0 : decode prog_2_method_18_code 0 = .ok (.iconst 0, 1) := by decide +kernel
theorem eP_wordsCountedEach_1 : decode prog_2_method_18_code 1 = .ok (.istore_n 1, 1) := by decide +kernel
theorem eP_wordsCountedEach_2 : decode prog_2_method_18_code 2 = .ok (.iconst 0, 1) := by decide +kernel
theorem eP_wordsCountedEach_3 : decode prog_2_method_18_code 3 = .ok (.istore_n 2, 1) := by decide +kernel
theorem eP_wordsCountedEach_4 : decode prog_2_method_18_code 4 = .ok (.iload_n 2, 1) := by decide +kernel
theorem eP_wordsCountedEach_5 : decode prog_2_method_18_code 5 = .ok (.aload_n 0, 1) := by decide +kernel
theorem eP_wordsCountedEach_6 : decode prog_2_method_18_code 6 = .ok (.getfield 19, 3) := by decide +kernel
theorem eP_wordsCountedEach_9 : decode prog_2_method_18_code 9 = .ok (.if_icmp .ge 23, 3) := by decide +kernel
theorem eP_wordsCountedEach_12 : decode prog_2_method_18_code 12 = .ok (.iload_n 1, 1) := by decide +kernel
theorem eP_wordsCountedEach_13 : decode prog_2_method_18_code 13 = .ok (.aload_n 0, 1) := by decide +kernel
theorem eP_wordsCountedEach_14 : decode prog_2_method_18_code 14 = .ok (.getfield 24, 3) := by decide +kernel
theorem eP_wordsCountedEach_17 : decode prog_2_method_18_code 17 = .ok (.iload_n 2, 1) := by decide +kernel
theorem eP_wordsCountedEach_18 : decode prog_2_method_18_code 18 = .ok (.aaload, 1) := by decide +kernel
theorem eP_wordsCountedEach_19 : decode prog_2_method_18_code 19 = .ok (.iconst 4, 1) := by decide +kernel
theorem eP_wordsCountedEach_20 : decode prog_2_method_18_code 20 = .ok (.iaload, 1) := by decide +kernel
theorem eP_wordsCountedEach_21 : decode prog_2_method_18_code 21 = .ok (.invokestatic 80, 3) := by decide +kernel
theorem eP_wordsCountedEach_24 : decode prog_2_method_18_code 24 = .ok (.iadd, 1) := by decide +kernel
theorem eP_wordsCountedEach_25 : decode prog_2_method_18_code 25 = .ok (.istore_n 1, 1) := by decide +kernel
theorem eP_wordsCountedEach_26 : decode prog_2_method_18_code 26 = .ok (.iinc 2 1, 3) := by decide +kernel
theorem eP_wordsCountedEach_29 : decode prog_2_method_18_code 29 = .ok (.goto (-25), 3) := by decide +kernel
theorem eP_wordsCountedEach_32 : decode prog_2_method_18_code 32 = .ok (.iload_n 1, 1) := by decide +kernel
theorem eP_wordsCountedEach_33 : decode prog_2_method_18_code 33 = .ok (.ireturn, 1) := by decide +kernel
theorem eP_howManyAwake_0 : decode prog_2_method_21_code 0 = .ok (.iconst 0, 1) := by decide +kernel
theorem eP_howManyAwake_1 : decode prog_2_method_21_code 1 = .ok (.istore_n 1, 1) := by decide +kernel
theorem eP_howManyAwake_2 : decode prog_2_method_21_code 2 = .ok (.iconst 0, 1) := by decide +kernel
theorem eP_howManyAwake_3 : decode prog_2_method_21_code 3 = .ok (.istore_n 2, 1) := by decide +kernel
theorem eP_howManyAwake_4 : decode prog_2_method_21_code 4 = .ok (.iload_n 2, 1) := by decide +kernel
theorem eP_howManyAwake_5 : decode prog_2_method_21_code 5 = .ok (.aload_n 0, 1) := by decide +kernel
theorem eP_howManyAwake_6 : decode prog_2_method_21_code 6 = .ok (.getfield 19, 3) := by decide +kernel
theorem eP_howManyAwake_9 : decode prog_2_method_21_code 9 = .ok (.if_icmp .ge 30, 3) := by decide +kernel
theorem eP_howManyAwake_12 : decode prog_2_method_21_code 12 = .ok (.iload_n 1, 1) := by decide +kernel
theorem eP_howManyAwake_13 : decode prog_2_method_21_code 13 = .ok (.aload_n 0, 1) := by decide +kernel
theorem eP_howManyAwake_14 : decode prog_2_method_21_code 14 = .ok (.aload_n 0, 1) := by decide +kernel
theorem eP_howManyAwake_15 : decode prog_2_method_21_code 15 = .ok (.getfield 24, 3) := by decide +kernel
theorem eP_howManyAwake_18 : decode prog_2_method_21_code 18 = .ok (.iload_n 2, 1) := by decide +kernel
theorem eP_howManyAwake_19 : decode prog_2_method_21_code 19 = .ok (.aaload, 1) := by decide +kernel
theorem eP_howManyAwake_20 : decode prog_2_method_21_code 20 = .ok (.invokevirtual 62, 3) := by decide +kernel
theorem eP_howManyAwake_23 : decode prog_2_method_21_code 23 = .ok (.ifCond .eq 7, 3) := by decide +kernel
theorem eP_howManyAwake_26 : decode prog_2_method_21_code 26 = .ok (.iconst 1, 1) := by decide +kernel
theorem eP_howManyAwake_27 : decode prog_2_method_21_code 27 = .ok (.goto 4, 3) := by decide +kernel
theorem eP_howManyAwake_30 : decode prog_2_method_21_code 30 = .ok (.iconst 0, 1) := by decide +kernel
theorem eP_howManyAwake_31 : decode prog_2_method_21_code 31 = .ok (.iadd, 1) := by decide +kernel
theorem eP_howManyAwake_32 : decode prog_2_method_21_code 32 = .ok (.istore_n 1, 1) := by decide +kernel
theorem eP_howManyAwake_33 : decode prog_2_method_21_code 33 = .ok (.iinc 2 1, 3) := by decide +kernel
theorem eP_howManyAwake_36 : decode prog_2_method_21_code 36 = .ok (.goto (-32), 3) := by decide +kernel
theorem eP_howManyAwake_39 : decode prog_2_method_21_code 39 = .ok (.iload_n 1, 1) := by decide +kernel
theorem eP_howManyAwake_40 : decode prog_2_method_21_code 40 = .ok (.ireturn, 1) := by decide +kernel
