/-! GENERATED: what each instruction is. -/
theorem eW_rota_0 : decode prog_1_method_2_code 0 = .ok (.iload_n 1, 1) := by decide +kernel
theorem eW_rota_1 : decode prog_1_method_2_code 1 = .ok (.iload_n 2, 1) := by decide +kernel
theorem eW_rota_2 : decode prog_1_method_2_code 2 = .ok (.invokestatic 47, 3) := by decide +kernel
theorem eW_rota_5 : decode prog_1_method_2_code 5 = .ok (.ifCond .ne 10, 3) := by decide +kernel
theorem eW_rota_8 : decode prog_1_method_2_code 8 = .ok (.aload_n 0, 1) := by decide +kernel
theorem eW_rota_9 : decode prog_1_method_2_code 9 = .ok (.ldc 51, 2) := by decide +kernel
theorem eW_rota_11 : decode prog_1_method_2_code 11 = .ok (.invokevirtual 52, 3) := by decide +kernel
theorem eW_rota_14 : decode prog_1_method_2_code 14 = .ok (.ireturn, 1) := by decide +kernel
theorem eW_rota_15 : decode prog_1_method_2_code 15 = .ok (.aload_n 0, 1) := by decide +kernel
theorem eW_rota_16 : decode prog_1_method_2_code 16 = .ok (.getfield 10, 3) := by decide +kernel
theorem eW_rota_19 : decode prog_1_method_2_code 19 = .ok (.getfield 56, 3) := by decide +kernel
theorem eW_rota_22 : decode prog_1_method_2_code 22 = .ok (.iload_n 1, 1) := by decide +kernel
theorem eW_rota_23 : decode prog_1_method_2_code 23 = .ok (.iaload, 1) := by decide +kernel
theorem eW_rota_24 : decode prog_1_method_2_code 24 = .ok (.istore_n 3, 1) := by decide +kernel
theorem eW_rota_25 : decode prog_1_method_2_code 25 = .ok (.aload_n 0, 1) := by decide +kernel
theorem eW_rota_26 : decode prog_1_method_2_code 26 = .ok (.getfield 10, 3) := by decide +kernel
theorem eW_rota_29 : decode prog_1_method_2_code 29 = .ok (.getfield 56, 3) := by decide +kernel
theorem eW_rota_32 : decode prog_1_method_2_code 32 = .ok (.iload_n 1, 1) := by decide +kernel
theorem eW_rota_33 : decode prog_1_method_2_code 33 = .ok (.iload_n 2, 1) := by decide +kernel
theorem eW_rota_34 : decode prog_1_method_2_code 34 = .ok (.iastore, 1) := by decide +kernel
theorem eW_rota_35 : decode prog_1_method_2_code 35 = .ok (.iload_n 3, 1) := by decide +kernel
theorem eW_rota_36 : decode prog_1_method_2_code 36 = .ok (.ireturn, 1) := by decide +kernel
theorem eW_mayBeRota_0 : decode prog_1_method_52_code 0 = .ok (.iload_n 0, 1) := by decide +kernel
theorem eW_mayBeRota_1 : decode prog_1_method_52_code 1 = .ok (.iconst 0, 1) := by decide +kernel
theorem eW_mayBeRota_2 : decode prog_1_method_52_code 2 = .ok (.iconst 3, 1) := by decide +kernel
theorem eW_mayBeRota_3 : decode prog_1_method_52_code 3 = .ok (.invokestatic 82, 3) := by decide +kernel
theorem eW_mayBeRota_6 : decode prog_1_method_52_code 6 = .ok (.ifCond .eq 24, 3) := by decide +kernel
theorem eW_mayBeRota_9 : decode prog_1_method_52_code 9 = .ok (.iload_n 1, 1) := by decide +kernel
theorem eW_mayBeRota_10 : decode prog_1_method_52_code 10 = .ok (.getstatic 177, 3) := by decide +kernel
theorem eW_mayBeRota_13 : decode prog_1_method_52_code 13 = .ok (.iload_n 0, 1) := by decide +kernel
theorem eW_mayBeRota_14 : decode prog_1_method_52_code 14 = .ok (.iaload, 1) := by decide +kernel
theorem eW_mayBeRota_15 : decode prog_1_method_52_code 15 = .ok (.getstatic 180, 3) := by decide +kernel
theorem eW_mayBeRota_18 : decode prog_1_method_52_code 18 = .ok (.iload_n 0, 1) := by decide +kernel
theorem eW_mayBeRota_19 : decode prog_1_method_52_code 19 = .ok (.iaload, 1) := by decide +kernel
theorem eW_mayBeRota_20 : decode prog_1_method_52_code 20 = .ok (.invokestatic 82, 3) := by decide +kernel
theorem eW_mayBeRota_23 : decode prog_1_method_52_code 23 = .ok (.ifCond .eq 7, 3) := by decide +kernel
theorem eW_mayBeRota_26 : decode prog_1_method_52_code 26 = .ok (.iconst 1, 1) := by decide +kernel
theorem eW_mayBeRota_27 : decode prog_1_method_52_code 27 = .ok (.goto 4, 3) := by decide +kernel
theorem eW_mayBeRota_30 : decode prog_1_method_52_code 30 = .ok (.iconst 0, 1) := by decide +kernel
theorem eW_mayBeRota_31 : decode prog_1_method_52_code 31 = .ok (.ireturn, 1) := by decide +kernel
theorem eW_isIn_0 : decode prog_1_method_46_code 0 = .ok (.iload_n 0, 1) := by decide +kernel
theorem eW_isIn_1 : decode prog_1_method_46_code 1 = .ok (.iload_n 1, 1) := by decide +kernel
theorem eW_isIn_2 : decode prog_1_method_46_code 2 = .ok (.if_icmp .lt 12, 3) := by decide +kernel
theorem eW_isIn_5 : decode prog_1_method_46_code 5 = .ok (.iload_n 0, 1) := by decide +kernel
theorem eW_isIn_6 : decode prog_1_method_46_code 6 = .ok (.iload_n 2, 1) := by decide +kernel
theorem eW_isIn_7 : decode prog_1_method_46_code 7 = .ok (.if_icmp .gt 7, 3) := by decide +kernel
theorem eW_isIn_10 : decode prog_1_method_46_code 10 = .ok (.iconst 1, 1) := by decide +kernel
theorem eW_isIn_11 : decode prog_1_method_46_code 11 = .ok (.goto 4, 3) := by decide +kernel
theorem eW_isIn_14 : decode prog_1_method_46_code 14 = .ok (.iconst 0, 1) := by decide +kernel
theorem eW_isIn_15 : decode prog_1_method_46_code 15 = .ok (.ireturn, 1) := by decide +kernel
theorem eW_finding_0 : decode prog_1_method_39_code 0 = .ok (.ldc 51, 2) := by decide +kernel
theorem eW_finding_2 : decode prog_1_method_39_code 2 = .ok (.iload_n 1, 1) := by decide +kernel
theorem eW_finding_3 : decode prog_1_method_39_code 3 = .ok (.isub, 1) := by decide +kernel
theorem eW_finding_4 : decode prog_1_method_39_code 4 = .ok (.istore_n 2, 1) := by decide +kernel
theorem eW_finding_5 : decode prog_1_method_39_code 5 = .ok (.iload_n 2, 1) := by decide +kernel
theorem eW_finding_6 : decode prog_1_method_39_code 6 = .ok (.iconst 0, 1) := by decide +kernel
theorem eW_finding_7 : decode prog_1_method_39_code 7 = .ok (.bipush 6, 2) := by decide +kernel
theorem eW_finding_9 : decode prog_1_method_39_code 9 = .ok (.invokestatic 82, 3) := by decide +kernel
theorem eW_finding_12 : decode prog_1_method_39_code 12 = .ok (.ifCond .eq 13, 3) := by decide +kernel
theorem eW_finding_15 : decode prog_1_method_39_code 15 = .ok (.aload_n 0, 1) := by decide +kernel
theorem eW_finding_16 : decode prog_1_method_39_code 16 = .ok (.getfield 39, 3) := by decide +kernel
theorem eW_finding_19 : decode prog_1_method_39_code 19 = .ok (.iload_n 2, 1) := by decide +kernel
theorem eW_finding_20 : decode prog_1_method_39_code 20 = .ok (.dup2, 1) := by decide +kernel
theorem eW_finding_21 : decode prog_1_method_39_code 21 = .ok (.iaload, 1) := by decide +kernel
theorem eW_finding_22 : decode prog_1_method_39_code 22 = .ok (.iconst 1, 1) := by decide +kernel
theorem eW_finding_23 : decode prog_1_method_39_code 23 = .ok (.iadd, 1) := by decide +kernel
theorem eW_finding_24 : decode prog_1_method_39_code 24 = .ok (.iastore, 1) := by decide +kernel
theorem eW_finding_25 : decode prog_1_method_39_code 25 = .ok (.iload_n 1, 1) := by decide +kernel
theorem eW_finding_26 : decode prog_1_method_39_code 26 = .ok (.ireturn, 1) := by decide +kernel
theorem eW_wall_0 : decode prog_1_method_3_code 0 = .ok (.iload_n 1, 1) := by decide +kernel
theorem eW_wall_1 : decode prog_1_method_3_code 1 = .ok (.invokestatic 59, 3) := by decide +kernel
theorem eW_wall_4 : decode prog_1_method_3_code 4 = .ok (.ifCond .eq 17, 3) := by decide +kernel
theorem eW_wall_7 : decode prog_1_method_3_code 7 = .ok (.iload_n 2, 1) := by decide +kernel
theorem eW_wall_8 : decode prog_1_method_3_code 8 = .ok (.invokestatic 63, 3) := by decide +kernel
theorem eW_wall_11 : decode prog_1_method_3_code 11 = .ok (.ifCond .eq 10, 3) := by decide +kernel
theorem eW_wall_14 : decode prog_1_method_3_code 14 = .ok (.iload_n 3, 1) := by decide +kernel
theorem eW_wall_15 : decode prog_1_method_3_code 15 = .ok (.invokestatic 63, 3) := by decide +kernel
theorem eW_wall_18 : decode prog_1_method_3_code 18 = .ok (.ifCond .ne 10, 3) := by decide +kernel
theorem eW_wall_21 : decode prog_1_method_3_code 21 = .ok (.aload_n 0, 1) := by decide +kernel
theorem eW_wall_22 : decode prog_1_method_3_code 22 = .ok (.ldc 51, 2) := by decide +kernel
theorem eW_wall_24 : decode prog_1_method_3_code 24 = .ok (.invokevirtual 52, 3) := by decide +kernel
theorem eW_wall_27 : decode prog_1_method_3_code 27 = .ok (.ireturn, 1) := by decide +kernel
theorem eW_wall_28 : decode prog_1_method_3_code 28 = .ok (.aload_n 0, 1) := by decide +kernel
theorem eW_wall_29 : decode prog_1_method_3_code 29 = .ok (.getfield 10, 3) := by decide +kernel
theorem eW_wall_32 : decode prog_1_method_3_code 32 = .ok (.invokevirtual 66, 3) := by decide +kernel
theorem eW_wall_35 : decode prog_1_method_3_code 35 = .ok (.ifCond .eq 10, 3) := by decide +kernel
theorem eW_wall_38 : decode prog_1_method_3_code 38 = .ok (.aload_n 0, 1) := by decide +kernel
theorem eW_wall_39 : decode prog_1_method_3_code 39 = .ok (.ldc 70, 2) := by decide +kernel
theorem eW_wall_41 : decode prog_1_method_3_code 41 = .ok (.invokevirtual 52, 3) := by decide +kernel
theorem eW_wall_44 : decode prog_1_method_3_code 44 = .ok (.ireturn, 1) := by decide +kernel
theorem eW_wall_45 : decode prog_1_method_3_code 45 = .ok (.aload_n 0, 1) := by decide +kernel
theorem eW_wall_46 : decode prog_1_method_3_code 46 = .ok (.getfield 10, 3) := by decide +kernel
theorem eW_wall_49 : decode prog_1_method_3_code 49 = .ok (.iload_n 1, 1) := by decide +kernel
theorem eW_wall_50 : decode prog_1_method_3_code 50 = .ok (.iload_n 2, 1) := by decide +kernel
theorem eW_wall_51 : decode prog_1_method_3_code 51 = .ok (.iload_n 3, 1) := by decide +kernel
theorem eW_wall_52 : decode prog_1_method_3_code 52 = .ok (.iconst 0, 1) := by decide +kernel
theorem eW_wall_53 : decode prog_1_method_3_code 53 = .ok (.invokevirtual 71, 3) := by decide +kernel
theorem eW_wall_56 : decode prog_1_method_3_code 56 = .ok (.ireturn, 1) := by decide +kernel
theorem eW_isKind_0 : decode prog_1_method_47_code 0 = .ok (.iload_n 0, 1) := by decide +kernel
theorem eW_isKind_1 : decode prog_1_method_47_code 1 = .ok (.iconst 0, 1) := by decide +kernel
theorem eW_isKind_2 : decode prog_1_method_47_code 2 = .ok (.iconst 5, 1) := by decide +kernel
theorem eW_isKind_3 : decode prog_1_method_47_code 3 = .ok (.invokestatic 82, 3) := by decide +kernel
theorem eW_isKind_6 : decode prog_1_method_47_code 6 = .ok (.ireturn, 1) := by decide +kernel
theorem eW_isRoom_0 : decode prog_1_method_48_code 0 = .ok (.iload_n 0, 1) := by decide +kernel
theorem eW_isRoom_1 : decode prog_1_method_48_code 1 = .ok (.iconst 0, 1) := by decide +kernel
theorem eW_isRoom_2 : decode prog_1_method_48_code 2 = .ok (.bipush 9, 2) := by decide +kernel
theorem eW_isRoom_4 : decode prog_1_method_48_code 4 = .ok (.invokestatic 82, 3) := by decide +kernel
theorem eW_isRoom_7 : decode prog_1_method_48_code 7 = .ok (.ireturn, 1) := by decide +kernel
theorem eP_isBuiltUp_0 : decode prog_2_method_3_code 0 = .ok (.aload_n 0, 1) := by decide +kernel
theorem eP_isBuiltUp_1 : decode prog_2_method_3_code 1 = .ok (.getfield 19, 3) := by decide +kernel
theorem eP_isBuiltUp_4 : decode prog_2_method_3_code 4 = .ok (.bipush 10, 2) := by decide +kernel
theorem eP_isBuiltUp_6 : decode prog_2_method_3_code 6 = .ok (.if_icmp .lt 7, 3) := by decide +kernel
theorem eP_isBuiltUp_9 : decode prog_2_method_3_code 9 = .ok (.iconst 1, 1) := by decide +kernel
theorem eP_isBuiltUp_10 : decode prog_2_method_3_code 10 = .ok (.goto 4, 3) := by decide +kernel
theorem eP_isBuiltUp_13 : decode prog_2_method_3_code 13 = .ok (.iconst 0, 1) := by decide +kernel
theorem eP_isBuiltUp_14 : decode prog_2_method_3_code 14 = .ok (.ireturn, 1) := by decide +kernel
theorem eP_build_0 : decode prog_2_method_4_code 0 = .ok (.aload_n 0, 1) := by decide +kernel
theorem eP_build_1 : decode prog_2_method_4_code 1 = .ok (.getfield 24, 3) := by decide +kernel
theorem eP_build_4 : decode prog_2_method_4_code 4 = .ok (.aload_n 0, 1) := by decide +kernel
theorem eP_build_5 : decode prog_2_method_4_code 5 = .ok (.getfield 19, 3) := by decide +kernel
theorem eP_build_8 : decode prog_2_method_4_code 8 = .ok (.aaload, 1) := by decide +kernel
theorem eP_build_9 : decode prog_2_method_4_code 9 = .ok (.astore 5, 2) := by decide +kernel
theorem eP_build_11 : decode prog_2_method_4_code 11 = .ok (.aload 5, 2) := by decide +kernel
theorem eP_build_13 : decode prog_2_method_4_code 13 = .ok (.iconst 0, 1) := by decide +kernel
theorem eP_build_14 : decode prog_2_method_4_code 14 = .ok (.iload_n 1, 1) := by decide +kernel
theorem eP_build_15 : decode prog_2_method_4_code 15 = .ok (.iastore, 1) := by decide +kernel
theorem eP_build_16 : decode prog_2_method_4_code 16 = .ok (.aload 5, 2) := by decide +kernel
theorem eP_build_18 : decode prog_2_method_4_code 18 = .ok (.iconst 1, 1) := by decide +kernel
theorem eP_build_19 : decode prog_2_method_4_code 19 = .ok (.iload_n 2, 1) := by decide +kernel
theorem eP_build_20 : decode prog_2_method_4_code 20 = .ok (.iastore, 1) := by decide +kernel
theorem eP_build_21 : decode prog_2_method_4_code 21 = .ok (.aload 5, 2) := by decide +kernel
theorem eP_build_23 : decode prog_2_method_4_code 23 = .ok (.iconst 2, 1) := by decide +kernel
theorem eP_build_24 : decode prog_2_method_4_code 24 = .ok (.iload_n 3, 1) := by decide +kernel
theorem eP_build_25 : decode prog_2_method_4_code 25 = .ok (.iastore, 1) := by decide +kernel
theorem eP_build_26 : decode prog_2_method_4_code 26 = .ok (.aload 5, 2) := by decide +kernel
theorem eP_build_28 : decode prog_2_method_4_code 28 = .ok (.iconst 3, 1) := by decide +kernel
theorem eP_build_29 : decode prog_2_method_4_code 29 = .ok (.iload 4, 2) := by decide +kernel
theorem eP_build_31 : decode prog_2_method_4_code 31 = .ok (.iastore, 1) := by decide +kernel
theorem eP_build_32 : decode prog_2_method_4_code 32 = .ok (.aload 5, 2) := by decide +kernel
theorem eP_build_34 : decode prog_2_method_4_code 34 = .ok (.iconst 4, 1) := by decide +kernel
theorem eP_build_35 : decode prog_2_method_4_code 35 = .ok (.iconst 0, 1) := by decide +kernel
theorem eP_build_36 : decode prog_2_method_4_code 36 = .ok (.iastore, 1) := by decide +kernel
theorem eP_build_37 : decode prog_2_method_4_code 37 = .ok (.aload 5, 2) := by decide +kernel
theorem eP_build_39 : decode prog_2_method_4_code 39 = .ok (.iconst 5, 1) := by decide +kernel
theorem eP_build_40 : decode prog_2_method_4_code 40 = .ok (.iconst 0, 1) := by decide +kernel
theorem eP_build_41 : decode prog_2_method_4_code 41 = .ok (.iastore, 1) := by decide +kernel
theorem eP_build_42 : decode prog_2_method_4_code 42 = .ok (.aload_n 0, 1) := by decide +kernel
theorem eP_build_43 : decode prog_2_method_4_code 43 = .ok (.dup, 1) := by decide +kernel
theorem eP_build_44 : decode prog_2_method_4_code 44 = .ok (.getfield 19, 3) := by decide +kernel
theorem eP_build_47 : decode prog_2_method_4_code 47 = .ok (.dup_x1, 1) := by decide +kernel
theorem eP_build_48 : decode prog_2_method_4_code 48 = .ok (.iconst 1, 1) := by decide +kernel
theorem eP_build_49 : decode prog_2_method_4_code 49 = .ok (.iadd, 1) := by decide +kernel
theorem eP_build_50 : decode prog_2_method_4_code 50 = .ok (.putfield 19, 3) := by decide +kernel
theorem eP_build_53 : decode prog_2_method_4_code 53 = .ok (.ireturn, 1) := by decide +kernel
theorem eW_of_0 : decode prog_1_method_4_code 0 = .ok (.aload_n 0, 1) := by decide +kernel
theorem eW_of_1 : decode prog_1_method_4_code 1 = .ok (.iload_n 1, 1) := by decide +kernel
theorem eW_of_2 : decode prog_1_method_4_code 2 = .ok (.invokevirtual 75, 3) := by decide +kernel
theorem eW_of_5 : decode prog_1_method_4_code 5 = .ok (.ifCond .ne 10, 3) := by decide +kernel
theorem eW_of_8 : decode prog_1_method_4_code 8 = .ok (.aload_n 0, 1) := by decide +kernel
theorem eW_of_9 : decode prog_1_method_4_code 9 = .ok (.ldc 51, 2) := by decide +kernel
theorem eW_of_11 : decode prog_1_method_4_code 11 = .ok (.invokevirtual 52, 3) := by decide +kernel
theorem eW_of_14 : decode prog_1_method_4_code 14 = .ok (.ireturn, 1) := by decide +kernel
theorem eW_of_15 : decode prog_1_method_4_code 15 = .ok (.aload_n 0, 1) := by decide +kernel
theorem eW_of_16 : decode prog_1_method_4_code 16 = .ok (.getfield 10, 3) := by decide +kernel
theorem eW_of_19 : decode prog_1_method_4_code 19 = .ok (.getfield 78, 3) := by decide +kernel
theorem eW_of_22 : decode prog_1_method_4_code 22 = .ok (.iload_n 1, 1) := by decide +kernel
theorem eW_of_23 : decode prog_1_method_4_code 23 = .ok (.aaload, 1) := by decide +kernel
theorem eW_of_24 : decode prog_1_method_4_code 24 = .ok (.astore_n 3, 1) := by decide +kernel
theorem eW_of_25 : decode prog_1_method_4_code 25 = .ok (.iload_n 2, 1) := by decide +kernel
theorem eW_of_26 : decode prog_1_method_4_code 26 = .ok (.iconst 0, 1) := by decide +kernel
theorem eW_of_27 : decode prog_1_method_4_code 27 = .ok (.iconst 5, 1) := by decide +kernel
theorem eW_of_28 : decode prog_1_method_4_code 28 = .ok (.invokestatic 82, 3) := by decide +kernel
theorem eW_of_31 : decode prog_1_method_4_code 31 = .ok (.ifCond .eq 7, 3) := by decide +kernel
theorem eW_of_34 : decode prog_1_method_4_code 34 = .ok (.aload_n 3, 1) := by decide +kernel
theorem eW_of_35 : decode prog_1_method_4_code 35 = .ok (.iload_n 2, 1) := by decide +kernel
theorem eW_of_36 : decode prog_1_method_4_code 36 = .ok (.iaload, 1) := by decide +kernel
theorem eW_of_37 : decode prog_1_method_4_code 37 = .ok (.ireturn, 1) := by decide +kernel
theorem eW_of_38 : decode prog_1_method_4_code 38 = .ok (.iload_n 2, 1) := by decide +kernel
theorem eW_of_39 : decode prog_1_method_4_code 39 = .ok (.tableswitch 73 6 8 #[25, 49, 66], 25) := by decide +kernel
theorem eW_of_64 : decode prog_1_method_4_code 64 = .ok (.aload_n 0, 1) := by decide +kernel
theorem eW_of_65 : decode prog_1_method_4_code 65 = .ok (.getfield 10, 3) := by decide +kernel
theorem eW_of_68 : decode prog_1_method_4_code 68 = .ok (.iload_n 1, 1) := by decide +kernel
theorem eW_of_69 : decode prog_1_method_4_code 69 = .ok (.aload_n 0, 1) := by decide +kernel
theorem eW_of_70 : decode prog_1_method_4_code 70 = .ok (.getfield 10, 3) := by decide +kernel
theorem eW_of_73 : decode prog_1_method_4_code 73 = .ok (.getfield 86, 3) := by decide +kernel
theorem eW_of_76 : decode prog_1_method_4_code 76 = .ok (.invokevirtual 90, 3) := by decide +kernel
theorem eW_of_79 : decode prog_1_method_4_code 79 = .ok (.ifCond .eq 7, 3) := by decide +kernel
theorem eW_of_82 : decode prog_1_method_4_code 82 = .ok (.iconst 1, 1) := by decide +kernel
theorem eW_of_83 : decode prog_1_method_4_code 83 = .ok (.goto 4, 3) := by decide +kernel
theorem eW_of_86 : decode prog_1_method_4_code 86 = .ok (.iconst 0, 1) := by decide +kernel
theorem eW_of_87 : decode prog_1_method_4_code 87 = .ok (.ireturn, 1) := by decide +kernel
theorem eW_of_88 : decode prog_1_method_4_code 88 = .ok (.aload_n 0, 1) := by decide +kernel
theorem eW_of_89 : decode prog_1_method_4_code 89 = .ok (.getfield 10, 3) := by decide +kernel
theorem eW_of_92 : decode prog_1_method_4_code 92 = .ok (.aload_n 3, 1) := by decide +kernel
theorem eW_of_93 : decode prog_1_method_4_code 93 = .ok (.invokevirtual 93, 3) := by decide +kernel
theorem eW_of_96 : decode prog_1_method_4_code 96 = .ok (.ifCond .eq 7, 3) := by decide +kernel
theorem eW_of_99 : decode prog_1_method_4_code 99 = .ok (.iconst 1, 1) := by decide +kernel
theorem eW_of_100 : decode prog_1_method_4_code 100 = .ok (.goto 4, 3) := by decide +kernel
theorem eW_of_103 : decode prog_1_method_4_code 103 = .ok (.iconst 0, 1) := by decide +kernel
theorem eW_of_104 : decode prog_1_method_4_code 104 = .ok (.ireturn, 1) := by decide +kernel
theorem eW_of_105 : decode prog_1_method_4_code 105 = .ok (.aload_n 3, 1) := by decide +kernel
theorem eW_of_106 : decode prog_1_method_4_code 106 = .ok (.iconst 0, 1) := by decide +kernel
theorem eW_of_107 : decode prog_1_method_4_code 107 = .ok (.iaload, 1) := by decide +kernel
theorem eW_of_108 : decode prog_1_method_4_code 108 = .ok (.invokestatic 97, 3) := by decide +kernel
theorem eW_of_111 : decode prog_1_method_4_code 111 = .ok (.ireturn, 1) := by decide +kernel
theorem eW_of_112 : decode prog_1_method_4_code 112 = .ok (.aload_n 0, 1) := by decide +kernel
theorem eW_of_113 : decode prog_1_method_4_code 113 = .ok (.ldc 51, 2) := by decide +kernel
theorem eW_of_115 : decode prog_1_method_4_code 115 = .ok (.invokevirtual 52, 3) := by decide +kernel
theorem eW_of_118 : decode prog_1_method_4_code 118 = .ok (.ireturn, 1) := by decide +kernel
theorem eW_isWall_0 : decode prog_1_method_40_code 0 = .ok (.iload_n 1, 1) := by decide +kernel
theorem eW_isWall_1 : decode prog_1_method_40_code 1 = .ok (.iconst 0, 1) := by decide +kernel
theorem eW_isWall_2 : decode prog_1_method_40_code 2 = .ok (.aload_n 0, 1) := by decide +kernel
theorem eW_isWall_3 : decode prog_1_method_40_code 3 = .ok (.getfield 10, 3) := by decide +kernel
theorem eW_isWall_6 : decode prog_1_method_40_code 6 = .ok (.getfield 168, 3) := by decide +kernel
theorem eW_isWall_9 : decode prog_1_method_40_code 9 = .ok (.iconst 1, 1) := by decide +kernel
theorem eW_isWall_10 : decode prog_1_method_40_code 10 = .ok (.isub, 1) := by decide +kernel
theorem eW_isWall_11 : decode prog_1_method_40_code 11 = .ok (.invokestatic 82, 3) := by decide +kernel
theorem eW_isWall_14 : decode prog_1_method_40_code 14 = .ok (.ireturn, 1) := by decide +kernel
theorem eP_dutyOf_0 : decode prog_2_method_8_code 0 = .ok (.aload_n 0, 1) := by decide +kernel
theorem eP_dutyOf_1 : decode prog_2_method_8_code 1 = .ok (.iload_n 2, 1) := by decide +kernel
theorem eP_dutyOf_2 : decode prog_2_method_8_code 2 = .ok (.aload_n 0, 1) := by decide +kernel
theorem eP_dutyOf_3 : decode prog_2_method_8_code 3 = .ok (.getfield 15, 3) := by decide +kernel
theorem eP_dutyOf_6 : decode prog_2_method_8_code 6 = .ok (.iconst 0, 1) := by decide +kernel
theorem eP_dutyOf_7 : decode prog_2_method_8_code 7 = .ok (.iaload, 1) := by decide +kernel
theorem eP_dutyOf_8 : decode prog_2_method_8_code 8 = .ok (.invokevirtual 36, 3) := by decide +kernel
theorem eP_dutyOf_11 : decode prog_2_method_8_code 11 = .ok (.iload_n 1, 1) := by decide +kernel
theorem eP_dutyOf_12 : decode prog_2_method_8_code 12 = .ok (.ishr, 1) := by decide +kernel
theorem eP_dutyOf_13 : decode prog_2_method_8_code 13 = .ok (.iconst 1, 1) := by decide +kernel
theorem eP_dutyOf_14 : decode prog_2_method_8_code 14 = .ok (.iand, 1) := by decide +kernel
theorem eP_dutyOf_15 : decode prog_2_method_8_code 15 = .ok (.iconst 1, 1) := by decide +kernel
theorem eP_dutyOf_16 : decode prog_2_method_8_code 16 = .ok (.if_icmp .ne 7, 3) := by decide +kernel
theorem eP_dutyOf_19 : decode prog_2_method_8_code 19 = .ok (.iconst 1, 1) := by decide +kernel
theorem eP_dutyOf_20 : decode prog_2_method_8_code 20 = .ok (.goto 4, 3) := by decide +kernel
theorem eP_dutyOf_23 : decode prog_2_method_8_code 23 = .ok (.iconst 0, 1) := by decide +kernel
theorem eP_dutyOf_24 : decode prog_2_method_8_code 24 = .ok (.ireturn, 1) := by decide +kernel
theorem eP_onDuty_0 : decode prog_2_method_9_code 0 = .ok (.iload_n 1, 1) := by decide +kernel
theorem eP_onDuty_1 : decode prog_2_method_9_code 1 = .ok (.iload_n 2, 1) := by decide +kernel
theorem eP_onDuty_2 : decode prog_2_method_9_code 2 = .ok (.invokestatic 40, 3) := by decide +kernel
theorem eP_onDuty_5 : decode prog_2_method_9_code 5 = .ok (.istore_n 3, 1) := by decide +kernel
theorem eP_onDuty_6 : decode prog_2_method_9_code 6 = .ok (.iload_n 1, 1) := by decide +kernel
theorem eP_onDuty_7 : decode prog_2_method_9_code 7 = .ok (.iload_n 2, 1) := by decide +kernel
theorem eP_onDuty_8 : decode prog_2_method_9_code 8 = .ok (.invokestatic 43, 3) := by decide +kernel
theorem eP_onDuty_11 : decode prog_2_method_9_code 11 = .ok (.istore 4, 2) := by decide +kernel
theorem eP_onDuty_13 : decode prog_2_method_9_code 13 = .ok (.iconst 0, 1) := by decide +kernel
theorem eP_onDuty_14 : decode prog_2_method_9_code 14 = .ok (.istore 5, 2) := by decide +kernel
theorem eP_onDuty_16 : decode prog_2_method_9_code 16 = .ok (.iconst 0, 1) := by decide +kernel
theorem eP_onDuty_17 : decode prog_2_method_9_code 17 = .ok (.istore 6, 2) := by decide +kernel
theorem eP_onDuty_19 : decode prog_2_method_9_code 19 = .ok (.iload 6, 2) := by decide +kernel
theorem eP_onDuty_21 : decode prog_2_method_9_code 21 = .ok (.aload_n 0, 1) := by decide +kernel
theorem eP_onDuty_22 : decode prog_2_method_9_code 22 = .ok (.getfield 19, 3) := by decide +kernel
theorem eP_onDuty_25 : decode prog_2_method_9_code 25 = .ok (.if_icmp .ge 46, 3) := by decide +kernel
theorem eP_onDuty_28 : decode prog_2_method_9_code 28 = .ok (.aload_n 0, 1) := by decide +kernel
theorem eP_onDuty_29 : decode prog_2_method_9_code 29 = .ok (.aload_n 0, 1) := by decide +kernel
theorem eP_onDuty_30 : decode prog_2_method_9_code 30 = .ok (.getfield 24, 3) := by decide +kernel
theorem eP_onDuty_33 : decode prog_2_method_9_code 33 = .ok (.iload 6, 2) := by decide +kernel
theorem eP_onDuty_35 : decode prog_2_method_9_code 35 = .ok (.aaload, 1) := by decide +kernel
theorem eP_onDuty_36 : decode prog_2_method_9_code 36 = .ok (.iconst 0, 1) := by decide +kernel
theorem eP_onDuty_37 : decode prog_2_method_9_code 37 = .ok (.iaload, 1) := by decide +kernel
theorem eP_onDuty_38 : decode prog_2_method_9_code 38 = .ok (.aload_n 0, 1) := by decide +kernel
theorem eP_onDuty_39 : decode prog_2_method_9_code 39 = .ok (.getfield 24, 3) := by decide +kernel
theorem eP_onDuty_42 : decode prog_2_method_9_code 42 = .ok (.iload 6, 2) := by decide +kernel
theorem eP_onDuty_44 : decode prog_2_method_9_code 44 = .ok (.aaload, 1) := by decide +kernel
theorem eP_onDuty_45 : decode prog_2_method_9_code 45 = .ok (.iconst 3, 1) := by decide +kernel
theorem eP_onDuty_46 : decode prog_2_method_9_code 46 = .ok (.iaload, 1) := by decide +kernel
theorem eP_onDuty_47 : decode prog_2_method_9_code 47 = .ok (.iload_n 3, 1) := by decide +kernel
theorem eP_onDuty_48 : decode prog_2_method_9_code 48 = .ok (.iload 4, 2) := by decide +kernel
theorem eP_onDuty_50 : decode prog_2_method_9_code 50 = .ok (.invokevirtual 46, 3) := by decide +kernel
theorem eP_onDuty_53 : decode prog_2_method_9_code 53 = .ok (.ifCond .eq 12, 3) := by decide +kernel
theorem eP_onDuty_56 : decode prog_2_method_9_code 56 = .ok (.iload 5, 2) := by decide +kernel
theorem eP_onDuty_58 : decode prog_2_method_9_code 58 = .ok (.iconst 1, 1) := by decide +kernel
theorem eP_onDuty_59 : decode prog_2_method_9_code 59 = .ok (.iload 6, 2) := by decide +kernel
theorem eP_onDuty_61 : decode prog_2_method_9_code 61 = .ok (.ishl, 1) := by decide +kernel
theorem eP_onDuty_62 : decode prog_2_method_9_code 62 = .ok (.ior, 1) := by decide +kernel
theorem eP_onDuty_63 : decode prog_2_method_9_code 63 = .ok (.istore 5, 2) := by decide +kernel
theorem eP_onDuty_65 : decode prog_2_method_9_code 65 = .ok (.iinc 6 1, 3) := by decide +kernel
theorem eP_onDuty_68 : decode prog_2_method_9_code 68 = .ok (.goto (-49), 3) := by decide +kernel
theorem eP_onDuty_71 : decode prog_2_method_9_code 71 = .ok (.iload 5, 2) := by decide +kernel
theorem eP_onDuty_73 : decode prog_2_method_9_code 73 = .ok (.ireturn, 1) := by decide +kernel
theorem eW_quarterOf_0 : decode prog_1_method_54_code 0 = .ok (.iload_n 1, 1) := by decide +kernel
theorem eW_quarterOf_1 : decode prog_1_method_54_code 1 = .ok (.iconst 1, 1) := by decide +kernel
theorem eW_quarterOf_2 : decode prog_1_method_54_code 2 = .ok (.if_icmp .ge 7, 3) := by decide +kernel
theorem eW_quarterOf_5 : decode prog_1_method_54_code 5 = .ok (.iconst 0, 1) := by decide +kernel
theorem eW_quarterOf_6 : decode prog_1_method_54_code 6 = .ok (.goto 8, 3) := by decide +kernel
theorem eW_quarterOf_9 : decode prog_1_method_54_code 9 = .ok (.iload_n 0, 1) := by decide +kernel
theorem eW_quarterOf_10 : decode prog_1_method_54_code 10 = .ok (.iload_n 1, 1) := by decide +kernel
theorem eW_quarterOf_11 : decode prog_1_method_54_code 11 = .ok (.idiv, 1) := by decide +kernel
theorem eW_quarterOf_12 : decode prog_1_method_54_code 12 = .ok (.iconst 4, 1) := by decide +kernel
theorem eW_quarterOf_13 : decode prog_1_method_54_code 13 = .ok (.irem, 1) := by decide +kernel
theorem eW_quarterOf_14 : decode prog_1_method_54_code 14 = .ok (.ireturn, 1) := by decide +kernel
theorem eW_restOf_0 : decode prog_1_method_55_code 0 = .ok (.iload_n 1, 1) := by decide +kernel
theorem eW_restOf_1 : decode prog_1_method_55_code 1 = .ok (.iconst 1, 1) := by decide +kernel
theorem eW_restOf_2 : decode prog_1_method_55_code 2 = .ok (.if_icmp .ge 7, 3) := by decide +kernel
theorem eW_restOf_5 : decode prog_1_method_55_code 5 = .ok (.iconst 0, 1) := by decide +kernel
theorem eW_restOf_6 : decode prog_1_method_55_code 6 = .ok (.goto 6, 3) := by decide +kernel
theorem eW_restOf_9 : decode prog_1_method_55_code 9 = .ok (.iload_n 0, 1) := by decide +kernel
theorem eW_restOf_10 : decode prog_1_method_55_code 10 = .ok (.iload_n 1, 1) := by decide +kernel
theorem eW_restOf_11 : decode prog_1_method_55_code 11 = .ok (.irem, 1) := by decide +kernel
theorem eW_restOf_12 : decode prog_1_method_55_code 12 = .ok (.ireturn, 1) := by decide +kernel
theorem eP_listens_0 : decode prog_2_method_7_code 0 = .ok (.iload 4, 2) := by decide +kernel
theorem eP_listens_2 : decode prog_2_method_7_code 2 = .ok (.aload_n 0, 1) := by decide +kernel
theorem eP_listens_3 : decode prog_2_method_7_code 3 = .ok (.getfield 15, 3) := by decide +kernel
theorem eP_listens_6 : decode prog_2_method_7_code 6 = .ok (.iconst 1, 1) := by decide +kernel
theorem eP_listens_7 : decode prog_2_method_7_code 7 = .ok (.iaload, 1) := by decide +kernel
theorem eP_listens_8 : decode prog_2_method_7_code 8 = .ok (.if_icmp .lt 7, 3) := by decide +kernel
theorem eP_listens_11 : decode prog_2_method_7_code 11 = .ok (.iconst 1, 1) := by decide +kernel
theorem eP_listens_12 : decode prog_2_method_7_code 12 = .ok (.goto 4, 3) := by decide +kernel
theorem eP_listens_15 : decode prog_2_method_7_code 15 = .ok (.iconst 0, 1) := by decide +kernel
theorem eP_listens_16 : decode prog_2_method_7_code 16 = .ok (.istore 5, 2) := by decide +kernel
theorem eP_listens_18 : decode prog_2_method_7_code 18 = .ok (.iload_n 3, 1) := by decide +kernel
theorem eP_listens_19 : decode prog_2_method_7_code 19 = .ok (.iload_n 2, 1) := by decide +kernel
theorem eP_listens_20 : decode prog_2_method_7_code 20 = .ok (.if_icmp .ne 12, 3) := by decide +kernel
theorem eP_listens_23 : decode prog_2_method_7_code 23 = .ok (.iload 5, 2) := by decide +kernel
theorem eP_listens_25 : decode prog_2_method_7_code 25 = .ok (.ifCond .eq 7, 3) := by decide +kernel
theorem eP_listens_28 : decode prog_2_method_7_code 28 = .ok (.iconst 1, 1) := by decide +kernel
theorem eP_listens_29 : decode prog_2_method_7_code 29 = .ok (.goto 4, 3) := by decide +kernel
theorem eP_listens_32 : decode prog_2_method_7_code 32 = .ok (.iconst 0, 1) := by decide +kernel
theorem eP_listens_33 : decode prog_2_method_7_code 33 = .ok (.istore 6, 2) := by decide +kernel
theorem eP_listens_35 : decode prog_2_method_7_code 35 = .ok (.aload_n 0, 1) := by decide +kernel
theorem eP_listens_36 : decode prog_2_method_7_code 36 = .ok (.getfield 15, 3) := by decide +kernel
theorem eP_listens_39 : decode prog_2_method_7_code 39 = .ok (.iconst 2, 1) := by decide +kernel
theorem eP_listens_40 : decode prog_2_method_7_code 40 = .ok (.iaload, 1) := by decide +kernel
theorem eP_listens_41 : decode prog_2_method_7_code 41 = .ok (.iconst 3, 1) := by decide +kernel
theorem eP_listens_42 : decode prog_2_method_7_code 42 = .ok (.if_icmp .ne 7, 3) := by decide +kernel
theorem eP_listens_45 : decode prog_2_method_7_code 45 = .ok (.iconst 1, 1) := by decide +kernel
theorem eP_listens_46 : decode prog_2_method_7_code 46 = .ok (.goto 4, 3) := by decide +kernel
theorem eP_listens_49 : decode prog_2_method_7_code 49 = .ok (.iconst 0, 1) := by decide +kernel
theorem eP_listens_50 : decode prog_2_method_7_code 50 = .ok (.istore 7, 2) := by decide +kernel
theorem eP_listens_52 : decode prog_2_method_7_code 52 = .ok (.iload_n 1, 1) := by decide +kernel
theorem eP_listens_53 : decode prog_2_method_7_code 53 = .ok (.tableswitch 97 1 5 #[35, 97, 97, 51, 72], 35) := by decide +kernel
theorem eP_listens_88 : decode prog_2_method_7_code 88 = .ok (.iload 6, 2) := by decide +kernel
theorem eP_listens_90 : decode prog_2_method_7_code 90 = .ok (.ifCond .eq 12, 3) := by decide +kernel
theorem eP_listens_93 : decode prog_2_method_7_code 93 = .ok (.iload 7, 2) := by decide +kernel
theorem eP_listens_95 : decode prog_2_method_7_code 95 = .ok (.ifCond .ne 7, 3) := by decide +kernel
theorem eP_listens_98 : decode prog_2_method_7_code 98 = .ok (.iconst 1, 1) := by decide +kernel
theorem eP_listens_99 : decode prog_2_method_7_code 99 = .ok (.goto 4, 3) := by decide +kernel
theorem eP_listens_102 : decode prog_2_method_7_code 102 = .ok (.iconst 0, 1) := by decide +kernel
theorem eP_listens_103 : decode prog_2_method_7_code 103 = .ok (.ireturn, 1) := by decide +kernel
theorem eP_listens_104 : decode prog_2_method_7_code 104 = .ok (.iload 7, 2) := by decide +kernel
theorem eP_listens_106 : decode prog_2_method_7_code 106 = .ok (.ifCond .eq 16, 3) := by decide +kernel
theorem eP_listens_109 : decode prog_2_method_7_code 109 = .ok (.iload 4, 2) := by decide +kernel
theorem eP_listens_111 : decode prog_2_method_7_code 111 = .ok (.ifCond .ne 7, 3) := by decide +kernel
theorem eP_listens_114 : decode prog_2_method_7_code 114 = .ok (.iconst 1, 1) := by decide +kernel
theorem eP_listens_115 : decode prog_2_method_7_code 115 = .ok (.goto 9, 3) := by decide +kernel
theorem eP_listens_118 : decode prog_2_method_7_code 118 = .ok (.iconst 0, 1) := by decide +kernel
theorem eP_listens_119 : decode prog_2_method_7_code 119 = .ok (.goto 5, 3) := by decide +kernel
theorem eP_listens_122 : decode prog_2_method_7_code 122 = .ok (.iload 6, 2) := by decide +kernel
theorem eP_listens_124 : decode prog_2_method_7_code 124 = .ok (.ireturn, 1) := by decide +kernel
theorem eP_listens_125 : decode prog_2_method_7_code 125 = .ok (.iload 6, 2) := by decide +kernel
theorem eP_listens_127 : decode prog_2_method_7_code 127 = .ok (.ifCond .ne 17, 3) := by decide +kernel
theorem eP_listens_130 : decode prog_2_method_7_code 130 = .ok (.iload_n 3, 1) := by decide +kernel
theorem eP_listens_131 : decode prog_2_method_7_code 131 = .ok (.iload_n 2, 1) := by decide +kernel
theorem eP_listens_132 : decode prog_2_method_7_code 132 = .ok (.iconst 1, 1) := by decide +kernel
theorem eP_listens_133 : decode prog_2_method_7_code 133 = .ok (.iadd, 1) := by decide +kernel
theorem eP_listens_134 : decode prog_2_method_7_code 134 = .ok (.iconst 4, 1) := by decide +kernel
theorem eP_listens_135 : decode prog_2_method_7_code 135 = .ok (.irem, 1) := by decide +kernel
theorem eP_listens_136 : decode prog_2_method_7_code 136 = .ok (.if_icmp .ne 12, 3) := by decide +kernel
theorem eP_listens_139 : decode prog_2_method_7_code 139 = .ok (.iload 5, 2) := by decide +kernel
theorem eP_listens_141 : decode prog_2_method_7_code 141 = .ok (.ifCond .eq 7, 3) := by decide +kernel
theorem eP_listens_144 : decode prog_2_method_7_code 144 = .ok (.iconst 1, 1) := by decide +kernel
theorem eP_listens_145 : decode prog_2_method_7_code 145 = .ok (.goto 4, 3) := by decide +kernel
theorem eP_listens_148 : decode prog_2_method_7_code 148 = .ok (.iconst 0, 1) := by decide +kernel
theorem eP_listens_149 : decode prog_2_method_7_code 149 = .ok (.ireturn, 1) := by decide +kernel
theorem eP_listens_150 : decode prog_2_method_7_code 150 = .ok (.iload 6, 2) := by decide +kernel
theorem eP_listens_152 : decode prog_2_method_7_code 152 = .ok (.ireturn, 1) := by decide +kernel
theorem eP_isAwake_0 : decode prog_2_method_6_code 0 = .ok (.aload_n 1, 1) := by decide +kernel
theorem eP_isAwake_1 : decode prog_2_method_6_code 1 = .ok (.iconst 5, 1) := by decide +kernel
theorem eP_isAwake_2 : decode prog_2_method_6_code 2 = .ok (.iaload, 1) := by decide +kernel
theorem eP_isAwake_3 : decode prog_2_method_6_code 3 = .ok (.aload_n 0, 1) := by decide +kernel
theorem eP_isAwake_4 : decode prog_2_method_6_code 4 = .ok (.getfield 15, 3) := by decide +kernel
theorem eP_isAwake_7 : decode prog_2_method_6_code 7 = .ok (.iconst 3, 1) := by decide +kernel
theorem eP_isAwake_8 : decode prog_2_method_6_code 8 = .ok (.iaload, 1) := by decide +kernel
theorem eP_isAwake_9 : decode prog_2_method_6_code 9 = .ok (.if_icmp .ge 7, 3) := by decide +kernel
theorem eP_isAwake_12 : decode prog_2_method_6_code 12 = .ok (.iconst 1, 1) := by decide +kernel
theorem eP_isAwake_13 : decode prog_2_method_6_code 13 = .ok (.goto 4, 3) := by decide +kernel
theorem eP_isAwake_16 : decode prog_2_method_6_code 16 = .ok (.iconst 0, 1) := by decide +kernel
theorem eP_isAwake_17 : decode prog_2_method_6_code 17 = .ok (.ireturn, 1) := by decide +kernel
theorem eW_tires_0 : decode prog_1_method_56_code 0 = .ok (.iload_n 0, 1) := by decide +kernel
theorem eW_tires_1 : decode prog_1_method_56_code 1 = .ok (.tableswitch 31 3 5 #[27, 29, 27], 27) := by decide +kernel
theorem eW_tires_28 : decode prog_1_method_56_code 28 = .ok (.iconst 2, 1) := by decide +kernel
theorem eW_tires_29 : decode prog_1_method_56_code 29 = .ok (.ireturn, 1) := by decide +kernel
theorem eW_tires_30 : decode prog_1_method_56_code 30 = .ok (.iconst 0, 1) := by decide +kernel
theorem eW_tires_31 : decode prog_1_method_56_code 31 = .ok (.ireturn, 1) := by decide +kernel
theorem eW_tires_32 : decode prog_1_method_56_code 32 = .ok (.iconst 1, 1) := by decide +kernel
theorem eW_tires_33 : decode prog_1_method_56_code 33 = .ok (.ireturn, 1) := by decide +kernel
theorem eW_set_0 : decode prog_1_method_5_code 0 = .ok (.aload_n 0, 1) := by decide +kernel
theorem eW_set_1 : decode prog_1_method_5_code 1 = .ok (.iload_n 1, 1) := by decide +kernel
theorem eW_set_2 : decode prog_1_method_5_code 2 = .ok (.invokevirtual 75, 3) := by decide +kernel
theorem eW_set_5 : decode prog_1_method_5_code 5 = .ok (.ifCond .eq 25, 3) := by decide +kernel
theorem eW_set_8 : decode prog_1_method_5_code 8 = .ok (.iload_n 2, 1) := by decide +kernel
theorem eW_set_9 : decode prog_1_method_5_code 9 = .ok (.iconst 1, 1) := by decide +kernel
theorem eW_set_10 : decode prog_1_method_5_code 10 = .ok (.iconst 5, 1) := by decide +kernel
theorem eW_set_11 : decode prog_1_method_5_code 11 = .ok (.invokestatic 82, 3) := by decide +kernel
theorem eW_set_14 : decode prog_1_method_5_code 14 = .ok (.ifCond .eq 16, 3) := by decide +kernel
theorem eW_set_17 : decode prog_1_method_5_code 17 = .ok (.iload_n 3, 1) := by decide +kernel
theorem eW_set_18 : decode prog_1_method_5_code 18 = .ok (.iconst 0, 1) := by decide +kernel
theorem eW_set_19 : decode prog_1_method_5_code 19 = .ok (.getstatic 100, 3) := by decide +kernel
theorem eW_set_22 : decode prog_1_method_5_code 22 = .ok (.iload_n 2, 1) := by decide +kernel
theorem eW_set_23 : decode prog_1_method_5_code 23 = .ok (.iaload, 1) := by decide +kernel
theorem eW_set_24 : decode prog_1_method_5_code 24 = .ok (.invokestatic 82, 3) := by decide +kernel
theorem eW_set_27 : decode prog_1_method_5_code 27 = .ok (.ifCond .ne 10, 3) := by decide +kernel
theorem eW_set_30 : decode prog_1_method_5_code 30 = .ok (.aload_n 0, 1) := by decide +kernel
theorem eW_set_31 : decode prog_1_method_5_code 31 = .ok (.ldc 51, 2) := by decide +kernel
theorem eW_set_33 : decode prog_1_method_5_code 33 = .ok (.invokevirtual 52, 3) := by decide +kernel
theorem eW_set_36 : decode prog_1_method_5_code 36 = .ok (.ireturn, 1) := by decide +kernel
theorem eW_set_37 : decode prog_1_method_5_code 37 = .ok (.aload_n 0, 1) := by decide +kernel
theorem eW_set_38 : decode prog_1_method_5_code 38 = .ok (.getfield 10, 3) := by decide +kernel
theorem eW_set_41 : decode prog_1_method_5_code 41 = .ok (.iload_n 1, 1) := by decide +kernel
theorem eW_set_42 : decode prog_1_method_5_code 42 = .ok (.iload_n 2, 1) := by decide +kernel
theorem eW_set_43 : decode prog_1_method_5_code 43 = .ok (.iload_n 3, 1) := by decide +kernel
theorem eW_set_44 : decode prog_1_method_5_code 44 = .ok (.invokevirtual 103, 3) := by decide +kernel
theorem eW_set_47 : decode prog_1_method_5_code 47 = .ok (.ireturn, 1) := by decide +kernel
theorem eP_replace_0 : decode prog_2_method_5_code 0 = .ok (.aload_n 0, 1) := by decide +kernel
theorem eP_replace_1 : decode prog_2_method_5_code 1 = .ok (.getfield 24, 3) := by decide +kernel
theorem eP_replace_4 : decode prog_2_method_5_code 4 = .ok (.iload_n 1, 1) := by decide +kernel
theorem eP_replace_5 : decode prog_2_method_5_code 5 = .ok (.aaload, 1) := by decide +kernel
theorem eP_replace_6 : decode prog_2_method_5_code 6 = .ok (.iload_n 2, 1) := by decide +kernel
theorem eP_replace_7 : decode prog_2_method_5_code 7 = .ok (.iaload, 1) := by decide +kernel
theorem eP_replace_8 : decode prog_2_method_5_code 8 = .ok (.istore 4, 2) := by decide +kernel
theorem eP_replace_10 : decode prog_2_method_5_code 10 = .ok (.aload_n 0, 1) := by decide +kernel
theorem eP_replace_11 : decode prog_2_method_5_code 11 = .ok (.getfield 24, 3) := by decide +kernel
theorem eP_replace_14 : decode prog_2_method_5_code 14 = .ok (.iload_n 1, 1) := by decide +kernel
theorem eP_replace_15 : decode prog_2_method_5_code 15 = .ok (.aaload, 1) := by decide +kernel
theorem eP_replace_16 : decode prog_2_method_5_code 16 = .ok (.iload_n 2, 1) := by decide +kernel
theorem eP_replace_17 : decode prog_2_method_5_code 17 = .ok (.iload_n 3, 1) := by decide +kernel
theorem eP_replace_18 : decode prog_2_method_5_code 18 = .ok (.iastore, 1) := by decide +kernel
theorem eP_replace_19 : decode prog_2_method_5_code 19 = .ok (.iload 4, 2) := by decide +kernel
theorem eP_replace_21 : decode prog_2_method_5_code 21 = .ok (.ireturn, 1) := by decide +kernel
theorem eW_turn_0 : decode prog_1_method_6_code 0 = .ok (.aload_n 0, 1) := by decide +kernel
theorem eW_turn_1 : decode prog_1_method_6_code 1 = .ok (.iload_n 1, 1) := by decide +kernel
theorem eW_turn_2 : decode prog_1_method_6_code 2 = .ok (.invokevirtual 75, 3) := by decide +kernel
theorem eW_turn_5 : decode prog_1_method_6_code 5 = .ok (.ifCond .eq 10, 3) := by decide +kernel
theorem eW_turn_8 : decode prog_1_method_6_code 8 = .ok (.iload_n 2, 1) := by decide +kernel
theorem eW_turn_9 : decode prog_1_method_6_code 9 = .ok (.invokestatic 59, 3) := by decide +kernel
theorem eW_turn_12 : decode prog_1_method_6_code 12 = .ok (.ifCond .ne 10, 3) := by decide +kernel
theorem eW_turn_15 : decode prog_1_method_6_code 15 = .ok (.aload_n 0, 1) := by decide +kernel
theorem eW_turn_16 : decode prog_1_method_6_code 16 = .ok (.ldc 51, 2) := by decide +kernel
theorem eW_turn_18 : decode prog_1_method_6_code 18 = .ok (.invokevirtual 52, 3) := by decide +kernel
theorem eW_turn_21 : decode prog_1_method_6_code 21 = .ok (.ireturn, 1) := by decide +kernel
theorem eW_turn_22 : decode prog_1_method_6_code 22 = .ok (.aload_n 0, 1) := by decide +kernel
theorem eW_turn_23 : decode prog_1_method_6_code 23 = .ok (.getfield 10, 3) := by decide +kernel
theorem eW_turn_26 : decode prog_1_method_6_code 26 = .ok (.iload_n 1, 1) := by decide +kernel
theorem eW_turn_27 : decode prog_1_method_6_code 27 = .ok (.iconst 0, 1) := by decide +kernel
theorem eW_turn_28 : decode prog_1_method_6_code 28 = .ok (.iload_n 2, 1) := by decide +kernel
theorem eW_turn_29 : decode prog_1_method_6_code 29 = .ok (.invokevirtual 103, 3) := by decide +kernel
theorem eW_turn_32 : decode prog_1_method_6_code 32 = .ok (.ireturn, 1) := by decide +kernel
theorem eW_as_0 : decode prog_1_method_7_code 0 = .ok (.aload_n 0, 1) := by decide +kernel
theorem eW_as_1 : decode prog_1_method_7_code 1 = .ok (.iload_n 1, 1) := by decide +kernel
theorem eW_as_2 : decode prog_1_method_7_code 2 = .ok (.invokevirtual 75, 3) := by decide +kernel
theorem eW_as_5 : decode prog_1_method_7_code 5 = .ok (.ifCond .eq 10, 3) := by decide +kernel
theorem eW_as_8 : decode prog_1_method_7_code 8 = .ok (.iload_n 2, 1) := by decide +kernel
theorem eW_as_9 : decode prog_1_method_7_code 9 = .ok (.invokestatic 59, 3) := by decide +kernel
theorem eW_as_12 : decode prog_1_method_7_code 12 = .ok (.ifCond .ne 10, 3) := by decide +kernel
theorem eW_as_15 : decode prog_1_method_7_code 15 = .ok (.aload_n 0, 1) := by decide +kernel
theorem eW_as_16 : decode prog_1_method_7_code 16 = .ok (.ldc 51, 2) := by decide +kernel
theorem eW_as_18 : decode prog_1_method_7_code 18 = .ok (.invokevirtual 52, 3) := by decide +kernel
theorem eW_as_21 : decode prog_1_method_7_code 21 = .ok (.ireturn, 1) := by decide +kernel
theorem eW_as_22 : decode prog_1_method_7_code 22 = .ok (.aload_n 0, 1) := by decide +kernel
theorem eW_as_23 : decode prog_1_method_7_code 23 = .ok (.getfield 10, 3) := by decide +kernel
theorem eW_as_26 : decode prog_1_method_7_code 26 = .ok (.getfield 78, 3) := by decide +kernel
theorem eW_as_29 : decode prog_1_method_7_code 29 = .ok (.iload_n 1, 1) := by decide +kernel
theorem eW_as_30 : decode prog_1_method_7_code 30 = .ok (.aaload, 1) := by decide +kernel
theorem eW_as_31 : decode prog_1_method_7_code 31 = .ok (.astore_n 3, 1) := by decide +kernel
theorem eW_as_32 : decode prog_1_method_7_code 32 = .ok (.aload_n 3, 1) := by decide +kernel
theorem eW_as_33 : decode prog_1_method_7_code 33 = .ok (.iconst 0, 1) := by decide +kernel
theorem eW_as_34 : decode prog_1_method_7_code 34 = .ok (.iaload, 1) := by decide +kernel
theorem eW_as_35 : decode prog_1_method_7_code 35 = .ok (.iload_n 2, 1) := by decide +kernel
theorem eW_as_36 : decode prog_1_method_7_code 36 = .ok (.invokestatic 107, 3) := by decide +kernel
theorem eW_as_39 : decode prog_1_method_7_code 39 = .ok (.ifCond .ne 10, 3) := by decide +kernel
theorem eW_as_42 : decode prog_1_method_7_code 42 = .ok (.aload_n 0, 1) := by decide +kernel
theorem eW_as_43 : decode prog_1_method_7_code 43 = .ok (.ldc 110, 2) := by decide +kernel
theorem eW_as_45 : decode prog_1_method_7_code 45 = .ok (.invokevirtual 52, 3) := by decide +kernel
theorem eW_as_48 : decode prog_1_method_7_code 48 = .ok (.ireturn, 1) := by decide +kernel
theorem eW_as_49 : decode prog_1_method_7_code 49 = .ok (.aload_n 3, 1) := by decide +kernel
theorem eW_as_50 : decode prog_1_method_7_code 50 = .ok (.iconst 4, 1) := by decide +kernel
theorem eW_as_51 : decode prog_1_method_7_code 51 = .ok (.iaload, 1) := by decide +kernel
theorem eW_as_52 : decode prog_1_method_7_code 52 = .ok (.ireturn, 1) := by decide +kernel
theorem eW_isUnder_0 : decode prog_1_method_53_code 0 = .ok (.iload_n 0, 1) := by decide +kernel
theorem eW_isUnder_1 : decode prog_1_method_53_code 1 = .ok (.istore_n 2, 1) := by decide +kernel
theorem eW_isUnder_2 : decode prog_1_method_53_code 2 = .ok (.iconst 0, 1) := by decide +kernel
theorem eW_isUnder_3 : decode prog_1_method_53_code 3 = .ok (.istore_n 3, 1) := by decide +kernel
theorem eW_isUnder_4 : decode prog_1_method_53_code 4 = .ok (.iload_n 3, 1) := by decide +kernel
theorem eW_isUnder_5 : decode prog_1_method_53_code 5 = .ok (.bipush 6, 2) := by decide +kernel
theorem eW_isUnder_7 : decode prog_1_method_53_code 7 = .ok (.if_icmp .ge 29, 3) := by decide +kernel
theorem eW_isUnder_10 : decode prog_1_method_53_code 10 = .ok (.iload_n 2, 1) := by decide +kernel
theorem eW_isUnder_11 : decode prog_1_method_53_code 11 = .ok (.invokestatic 59, 3) := by decide +kernel
theorem eW_isUnder_14 : decode prog_1_method_53_code 14 = .ok (.ifCond .eq 22, 3) := by decide +kernel
theorem eW_isUnder_17 : decode prog_1_method_53_code 17 = .ok (.iload_n 2, 1) := by decide +kernel
theorem eW_isUnder_18 : decode prog_1_method_53_code 18 = .ok (.iload_n 1, 1) := by decide +kernel
theorem eW_isUnder_19 : decode prog_1_method_53_code 19 = .ok (.if_icmp .ne 5, 3) := by decide +kernel
theorem eW_isUnder_22 : decode prog_1_method_53_code 22 = .ok (.iconst 1, 1) := by decide +kernel
theorem eW_isUnder_23 : decode prog_1_method_53_code 23 = .ok (.ireturn, 1) := by decide +kernel
theorem eW_isUnder_24 : decode prog_1_method_53_code 24 = .ok (.getstatic 258, 3) := by decide +kernel
theorem eW_isUnder_27 : decode prog_1_method_53_code 27 = .ok (.iload_n 2, 1) := by decide +kernel
theorem eW_isUnder_28 : decode prog_1_method_53_code 28 = .ok (.iaload, 1) := by decide +kernel
theorem eW_isUnder_29 : decode prog_1_method_53_code 29 = .ok (.istore_n 2, 1) := by decide +kernel
theorem eW_isUnder_30 : decode prog_1_method_53_code 30 = .ok (.iinc 3 1, 3) := by decide +kernel
theorem eW_isUnder_33 : decode prog_1_method_53_code 33 = .ok (.goto (-29), 3) := by decide +kernel
theorem eW_isUnder_36 : decode prog_1_method_53_code 36 = .ok (.iconst 0, 1) := by decide +kernel
theorem eW_isUnder_37 : decode prog_1_method_53_code 37 = .ok (.ireturn, 1) := by decide +kernel
theorem eW_hears_0 : decode prog_1_method_8_code 0 = .ok (.aload_n 0, 1) := by decide +kernel
theorem eW_hears_1 : decode prog_1_method_8_code 1 = .ok (.iload_n 1, 1) := by decide +kernel
theorem eW_hears_2 : decode prog_1_method_8_code 2 = .ok (.invokevirtual 75, 3) := by decide +kernel
theorem eW_hears_5 : decode prog_1_method_8_code 5 = .ok (.ifCond .eq 10, 3) := by decide +kernel
theorem eW_hears_8 : decode prog_1_method_8_code 8 = .ok (.iload_n 2, 1) := by decide +kernel
theorem eW_hears_9 : decode prog_1_method_8_code 9 = .ok (.invokestatic 111, 3) := by decide +kernel
theorem eW_hears_12 : decode prog_1_method_8_code 12 = .ok (.ifCond .ne 10, 3) := by decide +kernel
theorem eW_hears_15 : decode prog_1_method_8_code 15 = .ok (.aload_n 0, 1) := by decide +kernel
theorem eW_hears_16 : decode prog_1_method_8_code 16 = .ok (.ldc 51, 2) := by decide +kernel
theorem eW_hears_18 : decode prog_1_method_8_code 18 = .ok (.invokevirtual 52, 3) := by decide +kernel
theorem eW_hears_21 : decode prog_1_method_8_code 21 = .ok (.ireturn, 1) := by decide +kernel
theorem eW_hears_22 : decode prog_1_method_8_code 22 = .ok (.aload_n 0, 1) := by decide +kernel
theorem eW_hears_23 : decode prog_1_method_8_code 23 = .ok (.getfield 10, 3) := by decide +kernel
theorem eW_hears_26 : decode prog_1_method_8_code 26 = .ok (.getfield 78, 3) := by decide +kernel
theorem eW_hears_29 : decode prog_1_method_8_code 29 = .ok (.iload_n 1, 1) := by decide +kernel
theorem eW_hears_30 : decode prog_1_method_8_code 30 = .ok (.aaload, 1) := by decide +kernel
theorem eW_hears_31 : decode prog_1_method_8_code 31 = .ok (.iload_n 2, 1) := by decide +kernel
theorem eW_hears_32 : decode prog_1_method_8_code 32 = .ok (.invokestatic 114, 3) := by decide +kernel
theorem eW_hears_35 : decode prog_1_method_8_code 35 = .ok (.istore_n 3, 1) := by decide +kernel
theorem eW_hears_36 : decode prog_1_method_8_code 36 = .ok (.iload_n 3, 1) := by decide +kernel
theorem eW_hears_37 : decode prog_1_method_8_code 37 = .ok (.ifCond .ge 12, 3) := by decide +kernel
theorem eW_hears_40 : decode prog_1_method_8_code 40 = .ok (.aload_n 0, 1) := by decide +kernel
theorem eW_hears_41 : decode prog_1_method_8_code 41 = .ok (.ldc 118, 2) := by decide +kernel
theorem eW_hears_43 : decode prog_1_method_8_code 43 = .ok (.invokevirtual 52, 3) := by decide +kernel
theorem eW_hears_46 : decode prog_1_method_8_code 46 = .ok (.goto 4, 3) := by decide +kernel
theorem eW_hears_49 : decode prog_1_method_8_code 49 = .ok (.iload_n 3, 1) := by decide +kernel
theorem eW_hears_50 : decode prog_1_method_8_code 50 = .ok (.ireturn, 1) := by decide +kernel
theorem eW_isWord_0 : decode prog_1_method_49_code 0 = .ok (.iload_n 0, 1) := by decide +kernel
theorem eW_isWord_1 : decode prog_1_method_49_code 1 = .ok (.iconst 0, 1) := by decide +kernel
theorem eW_isWord_2 : decode prog_1_method_49_code 2 = .ok (.bipush 15, 2) := by decide +kernel
theorem eW_isWord_4 : decode prog_1_method_49_code 4 = .ok (.invokestatic 82, 3) := by decide +kernel
theorem eW_isWord_7 : decode prog_1_method_49_code 7 = .ok (.ireturn, 1) := by decide +kernel
theorem eW_becomes_0 : decode prog_1_method_57_code 0 = .ok (.aload_n 0, 1) := by decide +kernel
theorem eW_becomes_1 : decode prog_1_method_57_code 1 = .ok (.iconst 0, 1) := by decide +kernel
theorem eW_becomes_2 : decode prog_1_method_57_code 2 = .ok (.iaload, 1) := by decide +kernel
theorem eW_becomes_3 : decode prog_1_method_57_code 3 = .ok (.tableswitch 58 2 5 #[29, 58, 33, 44], 29) := by decide +kernel
theorem eW_becomes_32 : decode prog_1_method_57_code 32 = .ok (.iload_n 1, 1) := by decide +kernel
theorem eW_becomes_33 : decode prog_1_method_57_code 33 = .ok (.iconst 1, 1) := by decide +kernel
theorem eW_becomes_34 : decode prog_1_method_57_code 34 = .ok (.ixor, 1) := by decide +kernel
theorem eW_becomes_35 : decode prog_1_method_57_code 35 = .ok (.ireturn, 1) := by decide +kernel
theorem eW_becomes_36 : decode prog_1_method_57_code 36 = .ok (.iload_n 1, 1) := by decide +kernel
theorem eW_becomes_37 : decode prog_1_method_57_code 37 = .ok (.iconst 4, 1) := by decide +kernel
theorem eW_becomes_38 : decode prog_1_method_57_code 38 = .ok (.if_icmp .ge 7, 3) := by decide +kernel
theorem eW_becomes_41 : decode prog_1_method_57_code 41 = .ok (.iconst (-1), 1) := by decide +kernel
theorem eW_becomes_42 : decode prog_1_method_57_code 42 = .ok (.goto 4, 3) := by decide +kernel
theorem eW_becomes_45 : decode prog_1_method_57_code 45 = .ok (.iload_n 1, 1) := by decide +kernel
theorem eW_becomes_46 : decode prog_1_method_57_code 46 = .ok (.ireturn, 1) := by decide +kernel
theorem eW_becomes_47 : decode prog_1_method_57_code 47 = .ok (.aload_n 0, 1) := by decide +kernel
theorem eW_becomes_48 : decode prog_1_method_57_code 48 = .ok (.iconst 5, 1) := by decide +kernel
theorem eW_becomes_49 : decode prog_1_method_57_code 49 = .ok (.iaload, 1) := by decide +kernel
theorem eW_becomes_50 : decode prog_1_method_57_code 50 = .ok (.ifCond .ne 7, 3) := by decide +kernel
theorem eW_becomes_53 : decode prog_1_method_57_code 53 = .ok (.iload_n 1, 1) := by decide +kernel
theorem eW_becomes_54 : decode prog_1_method_57_code 54 = .ok (.goto 6, 3) := by decide +kernel
theorem eW_becomes_57 : decode prog_1_method_57_code 57 = .ok (.iload_n 1, 1) := by decide +kernel
theorem eW_becomes_58 : decode prog_1_method_57_code 58 = .ok (.iconst 1, 1) := by decide +kernel
theorem eW_becomes_59 : decode prog_1_method_57_code 59 = .ok (.ixor, 1) := by decide +kernel
theorem eW_becomes_60 : decode prog_1_method_57_code 60 = .ok (.ireturn, 1) := by decide +kernel
theorem eW_becomes_61 : decode prog_1_method_57_code 61 = .ok (.iload_n 1, 1) := by decide +kernel
theorem eW_becomes_62 : decode prog_1_method_57_code 62 = .ok (.ireturn, 1) := by decide +kernel
theorem eW_say_0 : decode prog_1_method_9_code 0 = .ok (.iload_n 1, 1) := by decide +kernel
theorem eW_say_1 : decode prog_1_method_9_code 1 = .ok (.invokestatic 63, 3) := by decide +kernel
theorem eW_say_4 : decode prog_1_method_9_code 4 = .ok (.ifCond .eq 10, 3) := by decide +kernel
theorem eW_say_7 : decode prog_1_method_9_code 7 = .ok (.iload_n 2, 1) := by decide +kernel
theorem eW_say_8 : decode prog_1_method_9_code 8 = .ok (.invokestatic 111, 3) := by decide +kernel
theorem eW_say_11 : decode prog_1_method_9_code 11 = .ok (.ifCond .ne 10, 3) := by decide +kernel
theorem eW_say_14 : decode prog_1_method_9_code 14 = .ok (.aload_n 0, 1) := by decide +kernel
theorem eW_say_15 : decode prog_1_method_9_code 15 = .ok (.ldc 51, 2) := by decide +kernel
theorem eW_say_17 : decode prog_1_method_9_code 17 = .ok (.invokevirtual 52, 3) := by decide +kernel
theorem eW_say_20 : decode prog_1_method_9_code 20 = .ok (.ireturn, 1) := by decide +kernel
theorem eW_say_21 : decode prog_1_method_9_code 21 = .ok (.aload_n 0, 1) := by decide +kernel
theorem eW_say_22 : decode prog_1_method_9_code 22 = .ok (.getfield 10, 3) := by decide +kernel
theorem eW_say_25 : decode prog_1_method_9_code 25 = .ok (.aload_n 0, 1) := by decide +kernel
theorem eW_say_26 : decode prog_1_method_9_code 26 = .ok (.getfield 10, 3) := by decide +kernel
theorem eW_say_29 : decode prog_1_method_9_code 29 = .ok (.iload_n 1, 1) := by decide +kernel
theorem eW_say_30 : decode prog_1_method_9_code 30 = .ok (.invokevirtual 119, 3) := by decide +kernel
theorem eW_say_33 : decode prog_1_method_9_code 33 = .ok (.iload_n 2, 1) := by decide +kernel
theorem eW_say_34 : decode prog_1_method_9_code 34 = .ok (.invokevirtual 122, 3) := by decide +kernel
theorem eW_say_37 : decode prog_1_method_9_code 37 = .ok (.ireturn, 1) := by decide +kernel
theorem eP_near_0 : decode prog_2_method_12_code 0 = .ok (.aload_n 0, 1) := by decide +kernel
theorem eP_near_1 : decode prog_2_method_12_code 1 = .ok (.iload_n 1, 1) := by decide +kernel
theorem eP_near_2 : decode prog_2_method_12_code 2 = .ok (.invokevirtual 54, 3) := by decide +kernel
theorem eP_near_5 : decode prog_2_method_12_code 5 = .ok (.istore_n 2, 1) := by decide +kernel
theorem eP_near_6 : decode prog_2_method_12_code 6 = .ok (.iconst 0, 1) := by decide +kernel
theorem eP_near_7 : decode prog_2_method_12_code 7 = .ok (.istore_n 3, 1) := by decide +kernel
theorem eP_near_8 : decode prog_2_method_12_code 8 = .ok (.iconst 0, 1) := by decide +kernel
theorem eP_near_9 : decode prog_2_method_12_code 9 = .ok (.istore 4, 2) := by decide +kernel
theorem eP_near_11 : decode prog_2_method_12_code 11 = .ok (.iload 4, 2) := by decide +kernel
theorem eP_near_13 : decode prog_2_method_12_code 13 = .ok (.aload_n 0, 1) := by decide +kernel
theorem eP_near_14 : decode prog_2_method_12_code 14 = .ok (.getfield 19, 3) := by decide +kernel
theorem eP_near_17 : decode prog_2_method_12_code 17 = .ok (.if_icmp .ge 32, 3) := by decide +kernel
theorem eP_near_20 : decode prog_2_method_12_code 20 = .ok (.aload_n 0, 1) := by decide +kernel
theorem eP_near_21 : decode prog_2_method_12_code 21 = .ok (.aload_n 0, 1) := by decide +kernel
theorem eP_near_22 : decode prog_2_method_12_code 22 = .ok (.getfield 24, 3) := by decide +kernel
theorem eP_near_25 : decode prog_2_method_12_code 25 = .ok (.iload 4, 2) := by decide +kernel
theorem eP_near_27 : decode prog_2_method_12_code 27 = .ok (.aaload, 1) := by decide +kernel
theorem eP_near_28 : decode prog_2_method_12_code 28 = .ok (.invokevirtual 50, 3) := by decide +kernel
theorem eP_near_31 : decode prog_2_method_12_code 31 = .ok (.iload_n 2, 1) := by decide +kernel
theorem eP_near_32 : decode prog_2_method_12_code 32 = .ok (.iand, 1) := by decide +kernel
theorem eP_near_33 : decode prog_2_method_12_code 33 = .ok (.ifCond .eq 10, 3) := by decide +kernel
theorem eP_near_36 : decode prog_2_method_12_code 36 = .ok (.iload_n 3, 1) := by decide +kernel
theorem eP_near_37 : decode prog_2_method_12_code 37 = .ok (.iconst 1, 1) := by decide +kernel
theorem eP_near_38 : decode prog_2_method_12_code 38 = .ok (.iload 4, 2) := by decide +kernel
theorem eP_near_40 : decode prog_2_method_12_code 40 = .ok (.ishl, 1) := by decide +kernel
theorem eP_near_41 : decode prog_2_method_12_code 41 = .ok (.ior, 1) := by decide +kernel
theorem eP_near_42 : decode prog_2_method_12_code 42 = .ok (.istore_n 3, 1) := by decide +kernel
theorem eP_near_43 : decode prog_2_method_12_code 43 = .ok (.iinc 4 1, 3) := by decide +kernel
theorem eP_near_46 : decode prog_2_method_12_code 46 = .ok (.goto (-35), 3) := by decide +kernel
theorem eP_near_49 : decode prog_2_method_12_code 49 = .ok (.iload_n 3, 1) := by decide +kernel
theorem eP_near_50 : decode prog_2_method_12_code 50 = .ok (.ireturn, 1) := by decide +kernel
theorem eP_leaks_0 : decode prog_2_method_11_code 0 = .ok (.iconst 1, 1) := by decide +kernel
theorem eP_leaks_1 : decode prog_2_method_11_code 1 = .ok (.iload_n 1, 1) := by decide +kernel
theorem eP_leaks_2 : decode prog_2_method_11_code 2 = .ok (.ishl, 1) := by decide +kernel
theorem eP_leaks_3 : decode prog_2_method_11_code 3 = .ok (.istore_n 2, 1) := by decide +kernel
theorem eP_leaks_4 : decode prog_2_method_11_code 4 = .ok (.iconst 0, 1) := by decide +kernel
theorem eP_leaks_5 : decode prog_2_method_11_code 5 = .ok (.istore_n 3, 1) := by decide +kernel
theorem eP_leaks_6 : decode prog_2_method_11_code 6 = .ok (.iload_n 3, 1) := by decide +kernel
theorem eP_leaks_7 : decode prog_2_method_11_code 7 = .ok (.bipush 10, 2) := by decide +kernel
theorem eP_leaks_9 : decode prog_2_method_11_code 9 = .ok (.if_icmp .ge 65, 3) := by decide +kernel
theorem eP_leaks_12 : decode prog_2_method_11_code 12 = .ok (.iconst 0, 1) := by decide +kernel
theorem eP_leaks_13 : decode prog_2_method_11_code 13 = .ok (.istore 4, 2) := by decide +kernel
theorem eP_leaks_15 : decode prog_2_method_11_code 15 = .ok (.iload 4, 2) := by decide +kernel
theorem eP_leaks_17 : decode prog_2_method_11_code 17 = .ok (.aload_n 0, 1) := by decide +kernel
theorem eP_leaks_18 : decode prog_2_method_11_code 18 = .ok (.getfield 19, 3) := by decide +kernel
theorem eP_leaks_21 : decode prog_2_method_11_code 21 = .ok (.if_icmp .ge 47, 3) := by decide +kernel
theorem eP_leaks_24 : decode prog_2_method_11_code 24 = .ok (.aload_n 0, 1) := by decide +kernel
theorem eP_leaks_25 : decode prog_2_method_11_code 25 = .ok (.aload_n 0, 1) := by decide +kernel
theorem eP_leaks_26 : decode prog_2_method_11_code 26 = .ok (.getfield 24, 3) := by decide +kernel
theorem eP_leaks_29 : decode prog_2_method_11_code 29 = .ok (.iload 4, 2) := by decide +kernel
theorem eP_leaks_31 : decode prog_2_method_11_code 31 = .ok (.aaload, 1) := by decide +kernel
theorem eP_leaks_32 : decode prog_2_method_11_code 32 = .ok (.invokevirtual 50, 3) := by decide +kernel
theorem eP_leaks_35 : decode prog_2_method_11_code 35 = .ok (.istore 5, 2) := by decide +kernel
theorem eP_leaks_37 : decode prog_2_method_11_code 37 = .ok (.aload_n 0, 1) := by decide +kernel
theorem eP_leaks_38 : decode prog_2_method_11_code 38 = .ok (.getfield 24, 3) := by decide +kernel
theorem eP_leaks_41 : decode prog_2_method_11_code 41 = .ok (.iload 4, 2) := by decide +kernel
theorem eP_leaks_43 : decode prog_2_method_11_code 43 = .ok (.aaload, 1) := by decide +kernel
theorem eP_leaks_44 : decode prog_2_method_11_code 44 = .ok (.iconst 0, 1) := by decide +kernel
theorem eP_leaks_45 : decode prog_2_method_11_code 45 = .ok (.iaload, 1) := by decide +kernel
theorem eP_leaks_46 : decode prog_2_method_11_code 46 = .ok (.iconst 3, 1) := by decide +kernel
theorem eP_leaks_47 : decode prog_2_method_11_code 47 = .ok (.if_icmp .ne 15, 3) := by decide +kernel
theorem eP_leaks_50 : decode prog_2_method_11_code 50 = .ok (.iload 5, 2) := by decide +kernel
theorem eP_leaks_52 : decode prog_2_method_11_code 52 = .ok (.iload_n 2, 1) := by decide +kernel
theorem eP_leaks_53 : decode prog_2_method_11_code 53 = .ok (.iand, 1) := by decide +kernel
theorem eP_leaks_54 : decode prog_2_method_11_code 54 = .ok (.ifCond .eq 8, 3) := by decide +kernel
theorem eP_leaks_57 : decode prog_2_method_11_code 57 = .ok (.iload_n 2, 1) := by decide +kernel
theorem eP_leaks_58 : decode prog_2_method_11_code 58 = .ok (.iload 5, 2) := by decide +kernel
theorem eP_leaks_60 : decode prog_2_method_11_code 60 = .ok (.ior, 1) := by decide +kernel
theorem eP_leaks_61 : decode prog_2_method_11_code 61 = .ok (.istore_n 2, 1) := by decide +kernel
theorem eP_leaks_62 : decode prog_2_method_11_code 62 = .ok (.iinc 4 1, 3) := by decide +kernel
theorem eP_leaks_65 : decode prog_2_method_11_code 65 = .ok (.goto (-50), 3) := by decide +kernel
theorem eP_leaks_68 : decode prog_2_method_11_code 68 = .ok (.iinc 3 1, 3) := by decide +kernel
theorem eP_leaks_71 : decode prog_2_method_11_code 71 = .ok (.goto (-65), 3) := by decide +kernel
theorem eP_leaks_74 : decode prog_2_method_11_code 74 = .ok (.iload_n 2, 1) := by decide +kernel
theorem eP_leaks_75 : decode prog_2_method_11_code 75 = .ok (.ireturn, 1) := by decide +kernel
theorem eP_roomsOf_0 : decode prog_2_method_13_code 0 = .ok (.iconst 1, 1) := by decide +kernel
theorem eP_roomsOf_1 : decode prog_2_method_13_code 1 = .ok (.aload_n 1, 1) := by decide +kernel
theorem eP_roomsOf_2 : decode prog_2_method_13_code 2 = .ok (.iconst 1, 1) := by decide +kernel
theorem eP_roomsOf_3 : decode prog_2_method_13_code 3 = .ok (.iaload, 1) := by decide +kernel
theorem eP_roomsOf_4 : decode prog_2_method_13_code 4 = .ok (.ishl, 1) := by decide +kernel
theorem eP_roomsOf_5 : decode prog_2_method_13_code 5 = .ok (.iconst 1, 1) := by decide +kernel
theorem eP_roomsOf_6 : decode prog_2_method_13_code 6 = .ok (.aload_n 1, 1) := by decide +kernel
theorem eP_roomsOf_7 : decode prog_2_method_13_code 7 = .ok (.iconst 2, 1) := by decide +kernel
theorem eP_roomsOf_8 : decode prog_2_method_13_code 8 = .ok (.iaload, 1) := by decide +kernel
theorem eP_roomsOf_9 : decode prog_2_method_13_code 9 = .ok (.ishl, 1) := by decide +kernel
theorem eP_roomsOf_10 : decode prog_2_method_13_code 10 = .ok (.ior, 1) := by decide +kernel
theorem eP_roomsOf_11 : decode prog_2_method_13_code 11 = .ok (.ireturn, 1) := by decide +kernel
theorem eP_utter_0 : decode prog_2_method_14_code 0 = .ok (.iload_n 1, 1) := by decide +kernel
theorem eP_utter_1 : decode prog_2_method_14_code 1 = .ok (.aload_n 0, 1) := by decide +kernel
theorem eP_utter_2 : decode prog_2_method_14_code 2 = .ok (.aload_n 0, 1) := by decide +kernel
theorem eP_utter_3 : decode prog_2_method_14_code 3 = .ok (.getfield 9, 3) := by decide +kernel
theorem eP_utter_6 : decode prog_2_method_14_code 6 = .ok (.aload_n 0, 1) := by decide +kernel
theorem eP_utter_7 : decode prog_2_method_14_code 7 = .ok (.getfield 15, 3) := by decide +kernel
theorem eP_utter_10 : decode prog_2_method_14_code 10 = .ok (.iconst 0, 1) := by decide +kernel
theorem eP_utter_11 : decode prog_2_method_14_code 11 = .ok (.iaload, 1) := by decide +kernel
theorem eP_utter_12 : decode prog_2_method_14_code 12 = .ok (.invokevirtual 36, 3) := by decide +kernel
theorem eP_utter_15 : decode prog_2_method_14_code 15 = .ok (.iand, 1) := by decide +kernel
theorem eP_utter_16 : decode prog_2_method_14_code 16 = .ok (.istore_n 3, 1) := by decide +kernel
theorem eP_utter_17 : decode prog_2_method_14_code 17 = .ok (.iconst 0, 1) := by decide +kernel
theorem eP_utter_18 : decode prog_2_method_14_code 18 = .ok (.istore 4, 2) := by decide +kernel
theorem eP_utter_20 : decode prog_2_method_14_code 20 = .ok (.iconst 0, 1) := by decide +kernel
theorem eP_utter_21 : decode prog_2_method_14_code 21 = .ok (.istore 5, 2) := by decide +kernel
theorem eP_utter_23 : decode prog_2_method_14_code 23 = .ok (.iload 5, 2) := by decide +kernel
theorem eP_utter_25 : decode prog_2_method_14_code 25 = .ok (.aload_n 0, 1) := by decide +kernel
theorem eP_utter_26 : decode prog_2_method_14_code 26 = .ok (.getfield 19, 3) := by decide +kernel
theorem eP_utter_29 : decode prog_2_method_14_code 29 = .ok (.if_icmp .ge 91, 3) := by decide +kernel
theorem eP_utter_32 : decode prog_2_method_14_code 32 = .ok (.aload_n 0, 1) := by decide +kernel
theorem eP_utter_33 : decode prog_2_method_14_code 33 = .ok (.getfield 24, 3) := by decide +kernel
theorem eP_utter_36 : decode prog_2_method_14_code 36 = .ok (.iload 5, 2) := by decide +kernel
theorem eP_utter_38 : decode prog_2_method_14_code 38 = .ok (.aaload, 1) := by decide +kernel
theorem eP_utter_39 : decode prog_2_method_14_code 39 = .ok (.astore 6, 2) := by decide +kernel
theorem eP_utter_41 : decode prog_2_method_14_code 41 = .ok (.aload 6, 2) := by decide +kernel
theorem eP_utter_43 : decode prog_2_method_14_code 43 = .ok (.iload_n 2, 1) := by decide +kernel
theorem eP_utter_44 : decode prog_2_method_14_code 44 = .ok (.invokestatic 58, 3) := by decide +kernel
theorem eP_utter_47 : decode prog_2_method_14_code 47 = .ok (.istore 7, 2) := by decide +kernel
theorem eP_utter_49 : decode prog_2_method_14_code 49 = .ok (.iload_n 3, 1) := by decide +kernel
theorem eP_utter_50 : decode prog_2_method_14_code 50 = .ok (.iload 5, 2) := by decide +kernel
theorem eP_utter_52 : decode prog_2_method_14_code 52 = .ok (.ishr, 1) := by decide +kernel
theorem eP_utter_53 : decode prog_2_method_14_code 53 = .ok (.iconst 1, 1) := by decide +kernel
theorem eP_utter_54 : decode prog_2_method_14_code 54 = .ok (.iand, 1) := by decide +kernel
theorem eP_utter_55 : decode prog_2_method_14_code 55 = .ok (.iconst 1, 1) := by decide +kernel
theorem eP_utter_56 : decode prog_2_method_14_code 56 = .ok (.if_icmp .ne 58, 3) := by decide +kernel
theorem eP_utter_59 : decode prog_2_method_14_code 59 = .ok (.aload_n 0, 1) := by decide +kernel
theorem eP_utter_60 : decode prog_2_method_14_code 60 = .ok (.aload 6, 2) := by decide +kernel
theorem eP_utter_62 : decode prog_2_method_14_code 62 = .ok (.invokevirtual 62, 3) := by decide +kernel
theorem eP_utter_65 : decode prog_2_method_14_code 65 = .ok (.ifCond .eq 49, 3) := by decide +kernel
theorem eP_utter_68 : decode prog_2_method_14_code 68 = .ok (.iload 7, 2) := by decide +kernel
theorem eP_utter_70 : decode prog_2_method_14_code 70 = .ok (.ifCond .lt 44, 3) := by decide +kernel
theorem eP_utter_73 : decode prog_2_method_14_code 73 = .ok (.aload 6, 2) := by decide +kernel
theorem eP_utter_75 : decode prog_2_method_14_code 75 = .ok (.iconst 4, 1) := by decide +kernel
theorem eP_utter_76 : decode prog_2_method_14_code 76 = .ok (.dup2, 1) := by decide +kernel
theorem eP_utter_77 : decode prog_2_method_14_code 77 = .ok (.iaload, 1) := by decide +kernel
theorem eP_utter_78 : decode prog_2_method_14_code 78 = .ok (.iconst 1, 1) := by decide +kernel
theorem eP_utter_79 : decode prog_2_method_14_code 79 = .ok (.iload 7, 2) := by decide +kernel
theorem eP_utter_81 : decode prog_2_method_14_code 81 = .ok (.ishl, 1) := by decide +kernel
theorem eP_utter_82 : decode prog_2_method_14_code 82 = .ok (.ior, 1) := by decide +kernel
theorem eP_utter_83 : decode prog_2_method_14_code 83 = .ok (.iastore, 1) := by decide +kernel
theorem eP_utter_84 : decode prog_2_method_14_code 84 = .ok (.aload 6, 2) := by decide +kernel
theorem eP_utter_86 : decode prog_2_method_14_code 86 = .ok (.iconst 5, 1) := by decide +kernel
theorem eP_utter_87 : decode prog_2_method_14_code 87 = .ok (.bipush 99, 2) := by decide +kernel
theorem eP_utter_89 : decode prog_2_method_14_code 89 = .ok (.aload 6, 2) := by decide +kernel
theorem eP_utter_91 : decode prog_2_method_14_code 91 = .ok (.iconst 5, 1) := by decide +kernel
theorem eP_utter_92 : decode prog_2_method_14_code 92 = .ok (.iaload, 1) := by decide +kernel
theorem eP_utter_93 : decode prog_2_method_14_code 93 = .ok (.aload 6, 2) := by decide +kernel
theorem eP_utter_95 : decode prog_2_method_14_code 95 = .ok (.iconst 0, 1) := by decide +kernel
theorem eP_utter_96 : decode prog_2_method_14_code 96 = .ok (.iaload, 1) := by decide +kernel
theorem eP_utter_97 : decode prog_2_method_14_code 97 = .ok (.invokestatic 66, 3) := by decide +kernel
theorem eP_utter_100 : decode prog_2_method_14_code 100 = .ok (.iadd, 1) := by decide +kernel
theorem eP_utter_101 : decode prog_2_method_14_code 101 = .ok (.invokestatic 69, 3) := by decide +kernel
theorem eP_utter_104 : decode prog_2_method_14_code 104 = .ok (.iastore, 1) := by decide +kernel
theorem eP_utter_105 : decode prog_2_method_14_code 105 = .ok (.iload 4, 2) := by decide +kernel
theorem eP_utter_107 : decode prog_2_method_14_code 107 = .ok (.iconst 1, 1) := by decide +kernel
theorem eP_utter_108 : decode prog_2_method_14_code 108 = .ok (.iload 5, 2) := by decide +kernel
theorem eP_utter_110 : decode prog_2_method_14_code 110 = .ok (.ishl, 1) := by decide +kernel
theorem eP_utter_111 : decode prog_2_method_14_code 111 = .ok (.ior, 1) := by decide +kernel
theorem eP_utter_112 : decode prog_2_method_14_code 112 = .ok (.istore 4, 2) := by decide +kernel
theorem eP_utter_114 : decode prog_2_method_14_code 114 = .ok (.iinc 5 1, 3) := by decide +kernel
theorem eP_utter_117 : decode prog_2_method_14_code 117 = .ok (.goto (-94), 3) := by decide +kernel
theorem eP_utter_120 : decode prog_2_method_14_code 120 = .ok (.iload 4, 2) := by decide +kernel
theorem eP_utter_122 : decode prog_2_method_14_code 122 = .ok (.ireturn, 1) := by decide +kernel
theorem eW_pass_0 : decode prog_1_method_10_code 0 = .ok (.iload_n 1, 1) := by decide +kernel
theorem eW_pass_1 : decode prog_1_method_10_code 1 = .ok (.iconst 1, 1) := by decide +kernel
theorem eW_pass_2 : decode prog_1_method_10_code 2 = .ok (.sipush 240, 3) := by decide +kernel
theorem eW_pass_5 : decode prog_1_method_10_code 5 = .ok (.invokestatic 82, 3) := by decide +kernel
theorem eW_pass_8 : decode prog_1_method_10_code 8 = .ok (.ifCond .ne 10, 3) := by decide +kernel
theorem eW_pass_11 : decode prog_1_method_10_code 11 = .ok (.aload_n 0, 1) := by decide +kernel
theorem eW_pass_12 : decode prog_1_method_10_code 12 = .ok (.ldc 51, 2) := by decide +kernel
theorem eW_pass_14 : decode prog_1_method_10_code 14 = .ok (.invokevirtual 52, 3) := by decide +kernel
theorem eW_pass_17 : decode prog_1_method_10_code 17 = .ok (.ireturn, 1) := by decide +kernel
theorem eW_pass_18 : decode prog_1_method_10_code 18 = .ok (.aload_n 0, 1) := by decide +kernel
theorem eW_pass_19 : decode prog_1_method_10_code 19 = .ok (.getfield 10, 3) := by decide +kernel
theorem eW_pass_22 : decode prog_1_method_10_code 22 = .ok (.getfield 86, 3) := by decide +kernel
theorem eW_pass_25 : decode prog_1_method_10_code 25 = .ok (.ldc 126, 2) := by decide +kernel
theorem eW_pass_27 : decode prog_1_method_10_code 27 = .ok (.iload_n 1, 1) := by decide +kernel
theorem eW_pass_28 : decode prog_1_method_10_code 28 = .ok (.isub, 1) := by decide +kernel
theorem eW_pass_29 : decode prog_1_method_10_code 29 = .ok (.if_icmp .le 10, 3) := by decide +kernel
theorem eW_pass_32 : decode prog_1_method_10_code 32 = .ok (.aload_n 0, 1) := by decide +kernel
theorem eW_pass_33 : decode prog_1_method_10_code 33 = .ok (.ldc 127, 2) := by decide +kernel
theorem eW_pass_35 : decode prog_1_method_10_code 35 = .ok (.invokevirtual 52, 3) := by decide +kernel
theorem eW_pass_38 : decode prog_1_method_10_code 38 = .ok (.ireturn, 1) := by decide +kernel
theorem eW_pass_39 : decode prog_1_method_10_code 39 = .ok (.iconst 0, 1) := by decide +kernel
theorem eW_pass_40 : decode prog_1_method_10_code 40 = .ok (.istore_n 2, 1) := by decide +kernel
theorem eW_pass_41 : decode prog_1_method_10_code 41 = .ok (.iload_n 2, 1) := by decide +kernel
theorem eW_pass_42 : decode prog_1_method_10_code 42 = .ok (.iload_n 1, 1) := by decide +kernel
theorem eW_pass_43 : decode prog_1_method_10_code 43 = .ok (.if_icmp .ge 16, 3) := by decide +kernel
theorem eW_pass_46 : decode prog_1_method_10_code 46 = .ok (.aload_n 0, 1) := by decide +kernel
theorem eW_pass_47 : decode prog_1_method_10_code 47 = .ok (.getfield 10, 3) := by decide +kernel
theorem eW_pass_50 : decode prog_1_method_10_code 50 = .ok (.invokevirtual 128, 3) := by decide +kernel
theorem eW_pass_53 : decode prog_1_method_10_code 53 = .ok (.iinc 2 1, 3) := by decide +kernel
theorem eW_pass_56 : decode prog_1_method_10_code 56 = .ok (.goto (-15), 3) := by decide +kernel
theorem eW_pass_59 : decode prog_1_method_10_code 59 = .ok (.aload_n 0, 1) := by decide +kernel
theorem eW_pass_60 : decode prog_1_method_10_code 60 = .ok (.getfield 10, 3) := by decide +kernel
theorem eW_pass_63 : decode prog_1_method_10_code 63 = .ok (.getfield 86, 3) := by decide +kernel
theorem eW_pass_66 : decode prog_1_method_10_code 66 = .ok (.ireturn, 1) := by decide +kernel
theorem eP_goOn_0 : decode prog_2_method_16_code 0 = .ok (.aload_n 0, 1) := by decide +kernel
theorem eP_goOn_1 : decode prog_2_method_16_code 1 = .ok (.dup, 1) := by decide +kernel
theorem eP_goOn_2 : decode prog_2_method_16_code 2 = .ok (.getfield 9, 3) := by decide +kernel
theorem eP_goOn_5 : decode prog_2_method_16_code 5 = .ok (.iconst 1, 1) := by decide +kernel
theorem eP_goOn_6 : decode prog_2_method_16_code 6 = .ok (.iadd, 1) := by decide +kernel
theorem eP_goOn_7 : decode prog_2_method_16_code 7 = .ok (.putfield 9, 3) := by decide +kernel
theorem eP_goOn_10 : decode prog_2_method_16_code 10 = .ok (.aload_n 0, 1) := by decide +kernel
theorem eP_goOn_11 : decode prog_2_method_16_code 11 = .ok (.getfield 15, 3) := by decide +kernel
theorem eP_goOn_14 : decode prog_2_method_16_code 14 = .ok (.iconst 0, 1) := by decide +kernel
theorem eP_goOn_15 : decode prog_2_method_16_code 15 = .ok (.iaload, 1) := by decide +kernel
theorem eP_goOn_16 : decode prog_2_method_16_code 16 = .ok (.istore_n 1, 1) := by decide +kernel
theorem eP_goOn_17 : decode prog_2_method_16_code 17 = .ok (.aload_n 0, 1) := by decide +kernel
theorem eP_goOn_18 : decode prog_2_method_16_code 18 = .ok (.getfield 9, 3) := by decide +kernel
theorem eP_goOn_21 : decode prog_2_method_16_code 21 = .ok (.iload_n 1, 1) := by decide +kernel
theorem eP_goOn_22 : decode prog_2_method_16_code 22 = .ok (.invokestatic 43, 3) := by decide +kernel
theorem eP_goOn_25 : decode prog_2_method_16_code 25 = .ok (.ifCond .eq 4, 3) := by decide +kernel
theorem eP_goOn_28 : decode prog_2_method_16_code 28 = .ok (.return_, 1) := by decide +kernel
theorem eP_goOn_29 : decode prog_2_method_16_code 29 = .ok (.iconst 0, 1) := by decide +kernel
theorem eP_goOn_30 : decode prog_2_method_16_code 30 = .ok (.istore_n 2, 1) := by decide +kernel
theorem eP_goOn_31 : decode prog_2_method_16_code 31 = .ok (.iload_n 2, 1) := by decide +kernel
theorem eP_goOn_32 : decode prog_2_method_16_code 32 = .ok (.aload_n 0, 1) := by decide +kernel
theorem eP_goOn_33 : decode prog_2_method_16_code 33 = .ok (.getfield 19, 3) := by decide +kernel
theorem eP_goOn_36 : decode prog_2_method_16_code 36 = .ok (.if_icmp .ge 37, 3) := by decide +kernel
theorem eP_goOn_39 : decode prog_2_method_16_code 39 = .ok (.aload_n 0, 1) := by decide +kernel
theorem eP_goOn_40 : decode prog_2_method_16_code 40 = .ok (.getfield 24, 3) := by decide +kernel
theorem eP_goOn_43 : decode prog_2_method_16_code 43 = .ok (.iload_n 2, 1) := by decide +kernel
theorem eP_goOn_44 : decode prog_2_method_16_code 44 = .ok (.aaload, 1) := by decide +kernel
theorem eP_goOn_45 : decode prog_2_method_16_code 45 = .ok (.iconst 3, 1) := by decide +kernel
theorem eP_goOn_46 : decode prog_2_method_16_code 46 = .ok (.iaload, 1) := by decide +kernel
theorem eP_goOn_47 : decode prog_2_method_16_code 47 = .ok (.aload_n 0, 1) := by decide +kernel
theorem eP_goOn_48 : decode prog_2_method_16_code 48 = .ok (.getfield 9, 3) := by decide +kernel
theorem eP_goOn_51 : decode prog_2_method_16_code 51 = .ok (.iload_n 1, 1) := by decide +kernel
theorem eP_goOn_52 : decode prog_2_method_16_code 52 = .ok (.invokestatic 40, 3) := by decide +kernel
theorem eP_goOn_55 : decode prog_2_method_16_code 55 = .ok (.if_icmp .ne 12, 3) := by decide +kernel
theorem eP_goOn_58 : decode prog_2_method_16_code 58 = .ok (.aload_n 0, 1) := by decide +kernel
theorem eP_goOn_59 : decode prog_2_method_16_code 59 = .ok (.getfield 24, 3) := by decide +kernel
theorem eP_goOn_62 : decode prog_2_method_16_code 62 = .ok (.iload_n 2, 1) := by decide +kernel
theorem eP_goOn_63 : decode prog_2_method_16_code 63 = .ok (.aaload, 1) := by decide +kernel
theorem eP_goOn_64 : decode prog_2_method_16_code 64 = .ok (.iconst 5, 1) := by decide +kernel
theorem eP_goOn_65 : decode prog_2_method_16_code 65 = .ok (.iconst 0, 1) := by decide +kernel
theorem eP_goOn_66 : decode prog_2_method_16_code 66 = .ok (.iastore, 1) := by decide +kernel
theorem eP_goOn_67 : decode prog_2_method_16_code 67 = .ok (.iinc 2 1, 3) := by decide +kernel
theorem eP_goOn_70 : decode prog_2_method_16_code 70 = .ok (.goto (-39), 3) := by decide +kernel
theorem eP_goOn_73 : decode prog_2_method_16_code 73 = .ok (.return_, 1) := by decide +kernel
theorem eW_speak_0 : decode prog_1_method_11_code 0 = .ok (.iload_n 1, 1) := by decide +kernel
theorem eW_speak_1 : decode prog_1_method_11_code 1 = .ok (.invokestatic 63, 3) := by decide +kernel
theorem eW_speak_4 : decode prog_1_method_11_code 4 = .ok (.ifCond .eq 10, 3) := by decide +kernel
theorem eW_speak_7 : decode prog_1_method_11_code 7 = .ok (.iload_n 2, 1) := by decide +kernel
theorem eW_speak_8 : decode prog_1_method_11_code 8 = .ok (.invokestatic 131, 3) := by decide +kernel
theorem eW_speak_11 : decode prog_1_method_11_code 11 = .ok (.ifCond .ne 10, 3) := by decide +kernel
theorem eW_speak_14 : decode prog_1_method_11_code 14 = .ok (.aload_n 0, 1) := by decide +kernel
theorem eW_speak_15 : decode prog_1_method_11_code 15 = .ok (.ldc 51, 2) := by decide +kernel
theorem eW_speak_17 : decode prog_1_method_11_code 17 = .ok (.invokevirtual 52, 3) := by decide +kernel
theorem eW_speak_20 : decode prog_1_method_11_code 20 = .ok (.ireturn, 1) := by decide +kernel
theorem eW_speak_21 : decode prog_1_method_11_code 21 = .ok (.aload_n 0, 1) := by decide +kernel
theorem eW_speak_22 : decode prog_1_method_11_code 22 = .ok (.getfield 10, 3) := by decide +kernel
theorem eW_speak_25 : decode prog_1_method_11_code 25 = .ok (.getfield 86, 3) := by decide +kernel
theorem eW_speak_28 : decode prog_1_method_11_code 28 = .ok (.ldc 126, 2) := by decide +kernel
theorem eW_speak_30 : decode prog_1_method_11_code 30 = .ok (.iload_n 2, 1) := by decide +kernel
theorem eW_speak_31 : decode prog_1_method_11_code 31 = .ok (.invokestatic 134, 3) := by decide +kernel
theorem eW_speak_34 : decode prog_1_method_11_code 34 = .ok (.isub, 1) := by decide +kernel
theorem eW_speak_35 : decode prog_1_method_11_code 35 = .ok (.if_icmp .le 10, 3) := by decide +kernel
theorem eW_speak_38 : decode prog_1_method_11_code 38 = .ok (.aload_n 0, 1) := by decide +kernel
theorem eW_speak_39 : decode prog_1_method_11_code 39 = .ok (.ldc 127, 2) := by decide +kernel
theorem eW_speak_41 : decode prog_1_method_11_code 41 = .ok (.invokevirtual 52, 3) := by decide +kernel
theorem eW_speak_44 : decode prog_1_method_11_code 44 = .ok (.ireturn, 1) := by decide +kernel
theorem eW_speak_45 : decode prog_1_method_11_code 45 = .ok (.aload_n 0, 1) := by decide +kernel
theorem eW_speak_46 : decode prog_1_method_11_code 46 = .ok (.getfield 10, 3) := by decide +kernel
theorem eW_speak_49 : decode prog_1_method_11_code 49 = .ok (.iload_n 1, 1) := by decide +kernel
theorem eW_speak_50 : decode prog_1_method_11_code 50 = .ok (.iload_n 2, 1) := by decide +kernel
theorem eW_speak_51 : decode prog_1_method_11_code 51 = .ok (.invokevirtual 139, 3) := by decide +kernel
theorem eW_speak_54 : decode prog_1_method_11_code 54 = .ok (.ireturn, 1) := by decide +kernel
theorem eW_isSetOfWords_0 : decode prog_1_method_50_code 0 = .ok (.iload_n 0, 1) := by decide +kernel
theorem eW_isSetOfWords_1 : decode prog_1_method_50_code 1 = .ok (.iconst 0, 1) := by decide +kernel
theorem eW_isSetOfWords_2 : decode prog_1_method_50_code 2 = .ok (.ldc_w 257, 3) := by decide +kernel
theorem eW_isSetOfWords_5 : decode prog_1_method_50_code 5 = .ok (.invokestatic 82, 3) := by decide +kernel
theorem eW_isSetOfWords_8 : decode prog_1_method_50_code 8 = .ok (.ireturn, 1) := by decide +kernel
theorem eJInt_bitCount_0 : decode prog_7_method_49_code 0 = .ok (.iload_n 0, 1) := by decide +kernel
theorem eJInt_bitCount_1 : decode prog_7_method_49_code 1 = .ok (.iload_n 0, 1) := by decide +kernel
theorem eJInt_bitCount_2 : decode prog_7_method_49_code 2 = .ok (.iconst 1, 1) := by decide +kernel
theorem eJInt_bitCount_3 : decode prog_7_method_49_code 3 = .ok (.iushr, 1) := by decide +kernel
theorem eJInt_bitCount_4 : decode prog_7_method_49_code 4 = .ok (.ldc_w 265, 3) := by decide +kernel
theorem eJInt_bitCount_7 : decode prog_7_method_49_code 7 = .ok (.iand, 1) := by decide +kernel
theorem eJInt_bitCount_8 : decode prog_7_method_49_code 8 = .ok (.isub, 1) := by decide +kernel
theorem eJInt_bitCount_9 : decode prog_7_method_49_code 9 = .ok (.istore_n 0, 1) := by decide +kernel
theorem eJInt_bitCount_10 : decode prog_7_method_49_code 10 = .ok (.iload_n 0, 1) := by decide +kernel
theorem eJInt_bitCount_11 : decode prog_7_method_49_code 11 = .ok (.ldc_w 266, 3) := by decide +kernel
theorem eJInt_bitCount_14 : decode prog_7_method_49_code 14 = .ok (.iand, 1) := by decide +kernel
theorem eJInt_bitCount_15 : decode prog_7_method_49_code 15 = .ok (.iload_n 0, 1) := by decide +kernel
theorem eJInt_bitCount_16 : decode prog_7_method_49_code 16 = .ok (.iconst 2, 1) := by decide +kernel
theorem eJInt_bitCount_17 : decode prog_7_method_49_code 17 = .ok (.iushr, 1) := by decide +kernel
theorem eJInt_bitCount_18 : decode prog_7_method_49_code 18 = .ok (.ldc_w 266, 3) := by decide +kernel
theorem eJInt_bitCount_21 : decode prog_7_method_49_code 21 = .ok (.iand, 1) := by decide +kernel
theorem eJInt_bitCount_22 : decode prog_7_method_49_code 22 = .ok (.iadd, 1) := by decide +kernel
theorem eJInt_bitCount_23 : decode prog_7_method_49_code 23 = .ok (.istore_n 0, 1) := by decide +kernel
theorem eJInt_bitCount_24 : decode prog_7_method_49_code 24 = .ok (.iload_n 0, 1) := by decide +kernel
theorem eJInt_bitCount_25 : decode prog_7_method_49_code 25 = .ok (.iload_n 0, 1) := by decide +kernel
theorem eJInt_bitCount_26 : decode prog_7_method_49_code 26 = .ok (.iconst 4, 1) := by decide +kernel
theorem eJInt_bitCount_27 : decode prog_7_method_49_code 27 = .ok (.iushr, 1) := by decide +kernel
theorem eJInt_bitCount_28 : decode prog_7_method_49_code 28 = .ok (.iadd, 1) := by decide +kernel
theorem eJInt_bitCount_29 : decode prog_7_method_49_code 29 = .ok (.ldc_w 267, 3) := by decide +kernel
theorem eJInt_bitCount_32 : decode prog_7_method_49_code 32 = .ok (.iand, 1) := by decide +kernel
theorem eJInt_bitCount_33 : decode prog_7_method_49_code 33 = .ok (.istore_n 0, 1) := by decide +kernel
theorem eJInt_bitCount_34 : decode prog_7_method_49_code 34 = .ok (.iload_n 0, 1) := by decide +kernel
theorem eJInt_bitCount_35 : decode prog_7_method_49_code 35 = .ok (.iload_n 0, 1) := by decide +kernel
theorem eJInt_bitCount_36 : decode prog_7_method_49_code 36 = .ok (.bipush 8, 2) := by decide +kernel
theorem eJInt_bitCount_38 : decode prog_7_method_49_code 38 = .ok (.iushr, 1) := by decide +kernel
theorem eJInt_bitCount_39 : decode prog_7_method_49_code 39 = .ok (.iadd, 1) := by decide +kernel
theorem eJInt_bitCount_40 : decode prog_7_method_49_code 40 = .ok (.istore_n 0, 1) := by decide +kernel
theorem eJInt_bitCount_41 : decode prog_7_method_49_code 41 = .ok (.iload_n 0, 1) := by decide +kernel
theorem eJInt_bitCount_42 : decode prog_7_method_49_code 42 = .ok (.iload_n 0, 1) := by decide +kernel
theorem eJInt_bitCount_43 : decode prog_7_method_49_code 43 = .ok (.bipush 16, 2) := by decide +kernel
theorem eJInt_bitCount_45 : decode prog_7_method_49_code 45 = .ok (.iushr, 1) := by decide +kernel
theorem eJInt_bitCount_46 : decode prog_7_method_49_code 46 = .ok (.iadd, 1) := by decide +kernel
theorem eJInt_bitCount_47 : decode prog_7_method_49_code 47 = .ok (.istore_n 0, 1) := by decide +kernel
theorem eJInt_bitCount_48 : decode prog_7_method_49_code 48 = .ok (.iload_n 0, 1) := by decide +kernel
theorem eJInt_bitCount_49 : decode prog_7_method_49_code 49 = .ok (.bipush 63, 2) := by decide +kernel
theorem eJInt_bitCount_51 : decode prog_7_method_49_code 51 = .ok (.iand, 1) := by decide +kernel
theorem eJInt_bitCount_52 : decode prog_7_method_49_code 52 = .ok (.ireturn, 1) := by decide +kernel
theorem eP_utterAll_0 : decode prog_2_method_15_code 0 = .ok (.aload_n 0, 1) := by decide +kernel
theorem eP_utterAll_1 : decode prog_2_method_15_code 1 = .ok (.iload_n 1, 1) := by decide +kernel
theorem eP_utterAll_2 : decode prog_2_method_15_code 2 = .ok (.invokevirtual 74, 3) := by decide +kernel
theorem eP_utterAll_5 : decode prog_2_method_15_code 5 = .ok (.istore_n 3, 1) := by decide +kernel
theorem eP_utterAll_6 : decode prog_2_method_15_code 6 = .ok (.iconst 0, 1) := by decide +kernel
theorem eP_utterAll_7 : decode prog_2_method_15_code 7 = .ok (.istore 4, 2) := by decide +kernel
theorem eP_utterAll_9 : decode prog_2_method_15_code 9 = .ok (.aload_n 0, 1) := by decide +kernel
theorem eP_utterAll_10 : decode prog_2_method_15_code 10 = .ok (.iconst 0, 1) := by decide +kernel
theorem eP_utterAll_11 : decode prog_2_method_15_code 11 = .ok (.putfield 27, 3) := by decide +kernel
theorem eP_utterAll_14 : decode prog_2_method_15_code 14 = .ok (.iconst 0, 1) := by decide +kernel
theorem eP_utterAll_15 : decode prog_2_method_15_code 15 = .ok (.istore 5, 2) := by decide +kernel
theorem eP_utterAll_17 : decode prog_2_method_15_code 17 = .ok (.iload 5, 2) := by decide +kernel
theorem eP_utterAll_19 : decode prog_2_method_15_code 19 = .ok (.bipush 16, 2) := by decide +kernel
theorem eP_utterAll_21 : decode prog_2_method_15_code 21 = .ok (.if_icmp .ge 64, 3) := by decide +kernel
theorem eP_utterAll_24 : decode prog_2_method_15_code 24 = .ok (.iload_n 2, 1) := by decide +kernel
theorem eP_utterAll_25 : decode prog_2_method_15_code 25 = .ok (.iload 5, 2) := by decide +kernel
theorem eP_utterAll_27 : decode prog_2_method_15_code 27 = .ok (.ishr, 1) := by decide +kernel
theorem eP_utterAll_28 : decode prog_2_method_15_code 28 = .ok (.iconst 1, 1) := by decide +kernel
theorem eP_utterAll_29 : decode prog_2_method_15_code 29 = .ok (.iand, 1) := by decide +kernel
theorem eP_utterAll_30 : decode prog_2_method_15_code 30 = .ok (.iconst 1, 1) := by decide +kernel
theorem eP_utterAll_31 : decode prog_2_method_15_code 31 = .ok (.if_icmp .ne 48, 3) := by decide +kernel
theorem eP_utterAll_34 : decode prog_2_method_15_code 34 = .ok (.aload_n 0, 1) := by decide +kernel
theorem eP_utterAll_35 : decode prog_2_method_15_code 35 = .ok (.iload_n 3, 1) := by decide +kernel
theorem eP_utterAll_36 : decode prog_2_method_15_code 36 = .ok (.iload 5, 2) := by decide +kernel
theorem eP_utterAll_38 : decode prog_2_method_15_code 38 = .ok (.invokevirtual 77, 3) := by decide +kernel
theorem eP_utterAll_41 : decode prog_2_method_15_code 41 = .ok (.istore 6, 2) := by decide +kernel
theorem eP_utterAll_43 : decode prog_2_method_15_code 43 = .ok (.iload 4, 2) := by decide +kernel
theorem eP_utterAll_45 : decode prog_2_method_15_code 45 = .ok (.iload 6, 2) := by decide +kernel
theorem eP_utterAll_47 : decode prog_2_method_15_code 47 = .ok (.invokestatic 80, 3) := by decide +kernel
theorem eP_utterAll_50 : decode prog_2_method_15_code 50 = .ok (.iadd, 1) := by decide +kernel
theorem eP_utterAll_51 : decode prog_2_method_15_code 51 = .ok (.istore 4, 2) := by decide +kernel
theorem eP_utterAll_53 : decode prog_2_method_15_code 53 = .ok (.aload_n 0, 1) := by decide +kernel
theorem eP_utterAll_54 : decode prog_2_method_15_code 54 = .ok (.dup, 1) := by decide +kernel
theorem eP_utterAll_55 : decode prog_2_method_15_code 55 = .ok (.getfield 27, 3) := by decide +kernel
theorem eP_utterAll_58 : decode prog_2_method_15_code 58 = .ok (.iload 6, 2) := by decide +kernel
theorem eP_utterAll_60 : decode prog_2_method_15_code 60 = .ok (.ifCond .ne 10, 3) := by decide +kernel
theorem eP_utterAll_63 : decode prog_2_method_15_code 63 = .ok (.iconst 1, 1) := by decide +kernel
theorem eP_utterAll_64 : decode prog_2_method_15_code 64 = .ok (.iload 5, 2) := by decide +kernel
theorem eP_utterAll_66 : decode prog_2_method_15_code 66 = .ok (.ishl, 1) := by decide +kernel
theorem eP_utterAll_67 : decode prog_2_method_15_code 67 = .ok (.goto 4, 3) := by decide +kernel
theorem eP_utterAll_70 : decode prog_2_method_15_code 70 = .ok (.iconst 0, 1) := by decide +kernel
theorem eP_utterAll_71 : decode prog_2_method_15_code 71 = .ok (.ior, 1) := by decide +kernel
theorem eP_utterAll_72 : decode prog_2_method_15_code 72 = .ok (.putfield 27, 3) := by decide +kernel
theorem eP_utterAll_75 : decode prog_2_method_15_code 75 = .ok (.aload_n 0, 1) := by decide +kernel
theorem eP_utterAll_76 : decode prog_2_method_15_code 76 = .ok (.invokevirtual 85, 3) := by decide +kernel
theorem eP_utterAll_79 : decode prog_2_method_15_code 79 = .ok (.iinc 5 1, 3) := by decide +kernel
theorem eP_utterAll_82 : decode prog_2_method_15_code 82 = .ok (.goto (-65), 3) := by decide +kernel
theorem eP_utterAll_85 : decode prog_2_method_15_code 85 = .ok (.iload 4, 2) := by decide +kernel
theorem eP_utterAll_87 : decode prog_2_method_15_code 87 = .ok (.ireturn, 1) := by decide +kernel
theorem eW_reach_0 : decode prog_1_method_12_code 0 = .ok (.iload_n 1, 1) := by decide +kernel
theorem eW_reach_1 : decode prog_1_method_12_code 1 = .ok (.invokestatic 63, 3) := by decide +kernel
theorem eW_reach_4 : decode prog_1_method_12_code 4 = .ok (.ifCond .eq 14, 3) := by decide +kernel
theorem eW_reach_7 : decode prog_1_method_12_code 7 = .ok (.aload_n 0, 1) := by decide +kernel
theorem eW_reach_8 : decode prog_1_method_12_code 8 = .ok (.getfield 10, 3) := by decide +kernel
theorem eW_reach_11 : decode prog_1_method_12_code 11 = .ok (.iload_n 1, 1) := by decide +kernel
theorem eW_reach_12 : decode prog_1_method_12_code 12 = .ok (.invokevirtual 142, 3) := by decide +kernel
theorem eW_reach_15 : decode prog_1_method_12_code 15 = .ok (.goto 9, 3) := by decide +kernel
theorem eW_reach_18 : decode prog_1_method_12_code 18 = .ok (.aload_n 0, 1) := by decide +kernel
theorem eW_reach_19 : decode prog_1_method_12_code 19 = .ok (.ldc 51, 2) := by decide +kernel
theorem eW_reach_21 : decode prog_1_method_12_code 21 = .ok (.invokevirtual 52, 3) := by decide +kernel
theorem eW_reach_24 : decode prog_1_method_12_code 24 = .ok (.ireturn, 1) := by decide +kernel
theorem eW_duty_0 : decode prog_1_method_13_code 0 = .ok (.iload_n 1, 1) := by decide +kernel
theorem eW_duty_1 : decode prog_1_method_13_code 1 = .ok (.iconst 0, 1) := by decide +kernel
theorem eW_duty_2 : decode prog_1_method_13_code 2 = .ok (.ldc 126, 2) := by decide +kernel
theorem eW_duty_4 : decode prog_1_method_13_code 4 = .ok (.invokestatic 82, 3) := by decide +kernel
theorem eW_duty_7 : decode prog_1_method_13_code 7 = .ok (.ifCond .ne 10, 3) := by decide +kernel
theorem eW_duty_10 : decode prog_1_method_13_code 10 = .ok (.aload_n 0, 1) := by decide +kernel
theorem eW_duty_11 : decode prog_1_method_13_code 11 = .ok (.ldc 51, 2) := by decide +kernel
theorem eW_duty_13 : decode prog_1_method_13_code 13 = .ok (.invokevirtual 52, 3) := by decide +kernel
theorem eW_duty_16 : decode prog_1_method_13_code 16 = .ok (.ireturn, 1) := by decide +kernel
theorem eW_duty_17 : decode prog_1_method_13_code 17 = .ok (.aload_n 0, 1) := by decide +kernel
theorem eW_duty_18 : decode prog_1_method_13_code 18 = .ok (.getfield 10, 3) := by decide +kernel
theorem eW_duty_21 : decode prog_1_method_13_code 21 = .ok (.iload_n 1, 1) := by decide +kernel
theorem eW_duty_22 : decode prog_1_method_13_code 22 = .ok (.aload_n 0, 1) := by decide +kernel
theorem eW_duty_23 : decode prog_1_method_13_code 23 = .ok (.getfield 10, 3) := by decide +kernel
theorem eW_duty_26 : decode prog_1_method_13_code 26 = .ok (.getfield 56, 3) := by decide +kernel
theorem eW_duty_29 : decode prog_1_method_13_code 29 = .ok (.iconst 0, 1) := by decide +kernel
theorem eW_duty_30 : decode prog_1_method_13_code 30 = .ok (.iaload, 1) := by decide +kernel
theorem eW_duty_31 : decode prog_1_method_13_code 31 = .ok (.invokevirtual 145, 3) := by decide +kernel
theorem eW_duty_34 : decode prog_1_method_13_code 34 = .ok (.ireturn, 1) := by decide +kernel
theorem eW_now_0 : decode prog_1_method_14_code 0 = .ok (.iload_n 1, 1) := by decide +kernel
theorem eW_now_1 : decode prog_1_method_14_code 1 = .ok (.tableswitch 107 0 6 #[43, 51, 61, 71, 81, 91, 99], 43) := by decide +kernel
theorem eW_now_44 : decode prog_1_method_14_code 44 = .ok (.aload_n 0, 1) := by decide +kernel
theorem eW_now_45 : decode prog_1_method_14_code 45 = .ok (.getfield 10, 3) := by decide +kernel
theorem eW_now_48 : decode prog_1_method_14_code 48 = .ok (.getfield 86, 3) := by decide +kernel
theorem eW_now_51 : decode prog_1_method_14_code 51 = .ok (.ireturn, 1) := by decide +kernel
theorem eW_now_52 : decode prog_1_method_14_code 52 = .ok (.aload_n 0, 1) := by decide +kernel
theorem eW_now_53 : decode prog_1_method_14_code 53 = .ok (.getfield 10, 3) := by decide +kernel
theorem eW_now_56 : decode prog_1_method_14_code 56 = .ok (.getfield 56, 3) := by decide +kernel
theorem eW_now_59 : decode prog_1_method_14_code 59 = .ok (.iconst 0, 1) := by decide +kernel
theorem eW_now_60 : decode prog_1_method_14_code 60 = .ok (.iaload, 1) := by decide +kernel
theorem eW_now_61 : decode prog_1_method_14_code 61 = .ok (.ireturn, 1) := by decide +kernel
theorem eW_now_62 : decode prog_1_method_14_code 62 = .ok (.aload_n 0, 1) := by decide +kernel
theorem eW_now_63 : decode prog_1_method_14_code 63 = .ok (.getfield 10, 3) := by decide +kernel
theorem eW_now_66 : decode prog_1_method_14_code 66 = .ok (.getfield 56, 3) := by decide +kernel
theorem eW_now_69 : decode prog_1_method_14_code 69 = .ok (.iconst 1, 1) := by decide +kernel
theorem eW_now_70 : decode prog_1_method_14_code 70 = .ok (.iaload, 1) := by decide +kernel
theorem eW_now_71 : decode prog_1_method_14_code 71 = .ok (.ireturn, 1) := by decide +kernel
theorem eW_now_72 : decode prog_1_method_14_code 72 = .ok (.aload_n 0, 1) := by decide +kernel
theorem eW_now_73 : decode prog_1_method_14_code 73 = .ok (.getfield 10, 3) := by decide +kernel
theorem eW_now_76 : decode prog_1_method_14_code 76 = .ok (.getfield 56, 3) := by decide +kernel
theorem eW_now_79 : decode prog_1_method_14_code 79 = .ok (.iconst 2, 1) := by decide +kernel
theorem eW_now_80 : decode prog_1_method_14_code 80 = .ok (.iaload, 1) := by decide +kernel
theorem eW_now_81 : decode prog_1_method_14_code 81 = .ok (.ireturn, 1) := by decide +kernel
theorem eW_now_82 : decode prog_1_method_14_code 82 = .ok (.aload_n 0, 1) := by decide +kernel
theorem eW_now_83 : decode prog_1_method_14_code 83 = .ok (.getfield 10, 3) := by decide +kernel
theorem eW_now_86 : decode prog_1_method_14_code 86 = .ok (.getfield 56, 3) := by decide +kernel
theorem eW_now_89 : decode prog_1_method_14_code 89 = .ok (.iconst 3, 1) := by decide +kernel
theorem eW_now_90 : decode prog_1_method_14_code 90 = .ok (.iaload, 1) := by decide +kernel
theorem eW_now_91 : decode prog_1_method_14_code 91 = .ok (.ireturn, 1) := by decide +kernel
theorem eW_now_92 : decode prog_1_method_14_code 92 = .ok (.aload_n 0, 1) := by decide +kernel
theorem eW_now_93 : decode prog_1_method_14_code 93 = .ok (.getfield 10, 3) := by decide +kernel
theorem eW_now_96 : decode prog_1_method_14_code 96 = .ok (.invokevirtual 148, 3) := by decide +kernel
theorem eW_now_99 : decode prog_1_method_14_code 99 = .ok (.ireturn, 1) := by decide +kernel
theorem eW_now_100 : decode prog_1_method_14_code 100 = .ok (.aload_n 0, 1) := by decide +kernel
theorem eW_now_101 : decode prog_1_method_14_code 101 = .ok (.getfield 10, 3) := by decide +kernel
theorem eW_now_104 : decode prog_1_method_14_code 104 = .ok (.invokevirtual 152, 3) := by decide +kernel
theorem eW_now_107 : decode prog_1_method_14_code 107 = .ok (.ireturn, 1) := by decide +kernel
theorem eW_now_108 : decode prog_1_method_14_code 108 = .ok (.aload_n 0, 1) := by decide +kernel
theorem eW_now_109 : decode prog_1_method_14_code 109 = .ok (.ldc 51, 2) := by decide +kernel
theorem eW_now_111 : decode prog_1_method_14_code 111 = .ok (.invokevirtual 52, 3) := by decide +kernel
theorem eW_now_114 : decode prog_1_method_14_code 114 = .ok (.ireturn, 1) := by decide +kernel
theorem eP_wordsInFiles_0 : decode prog_2_method_17_code 0 = .ok (.iconst 0, 1) := by decide +kernel
theorem eP_wordsInFiles_1 : decode prog_2_method_17_code 1 = .ok (.istore_n 1, 1) := by decide +kernel
theorem eP_wordsInFiles_2 : decode prog_2_method_17_code 2 = .ok (.iconst 0, 1) := by decide +kernel
theorem eP_wordsInFiles_3 : decode prog_2_method_17_code 3 = .ok (.istore_n 2, 1) := by decide +kernel
theorem eP_wordsInFiles_4 : decode prog_2_method_17_code 4 = .ok (.iload_n 2, 1) := by decide +kernel
theorem eP_wordsInFiles_5 : decode prog_2_method_17_code 5 = .ok (.aload_n 0, 1) := by decide +kernel
theorem eP_wordsInFiles_6 : decode prog_2_method_17_code 6 = .ok (.getfield 19, 3) := by decide +kernel
theorem eP_wordsInFiles_9 : decode prog_2_method_17_code 9 = .ok (.if_icmp .ge 20, 3) := by decide +kernel
theorem eP_wordsInFiles_12 : decode prog_2_method_17_code 12 = .ok (.iload_n 1, 1) := by decide +kernel
theorem eP_wordsInFiles_13 : decode prog_2_method_17_code 13 = .ok (.aload_n 0, 1) := by decide +kernel
theorem eP_wordsInFiles_14 : decode prog_2_method_17_code 14 = .ok (.getfield 24, 3) := by decide +kernel
theorem eP_wordsInFiles_17 : decode prog_2_method_17_code 17 = .ok (.iload_n 2, 1) := by decide +kernel
theorem eP_wordsInFiles_18 : decode prog_2_method_17_code 18 = .ok (.aaload, 1) := by decide +kernel
theorem eP_wordsInFiles_19 : decode prog_2_method_17_code 19 = .ok (.iconst 4, 1) := by decide +kernel
theorem eP_wordsInFiles_20 : decode prog_2_method_17_code 20 = .ok (.iaload, 1) := by decide +kernel
theorem eP_wordsInFiles_21 : decode prog_2_method_17_code 21 = .ok (.ior, 1) := by decide +kernel
theorem eP_wordsInFiles_22 : decode prog_2_method_17_code 22 = .ok (.istore_n 1, 1) := by decide +kernel
theorem eP_wordsInFiles_23 : decode prog_2_method_17_code 23 = .ok (.iinc 2 1, 3) := by decide +kernel
theorem eP_wordsInFiles_26 : decode prog_2_method_17_code 26 = .ok (.goto (-22), 3) := by decide +kernel
theorem eP_wordsInFiles_29 : decode prog_2_method_17_code 29 = .ok (.iload_n 1, 1) := by decide +kernel
theorem eP_wordsInFiles_30 : decode prog_2_method_17_code 30 = .ok (.ireturn, 1) := by decide +kernel
theorem eP_tiredTogether_0 : decode prog_2_method_20_code 0 = .ok (.iconst 0, 1) := by decide +kernel
theorem eP_tiredTogether_1 : decode prog_2_method_20_code 1 = .ok (.istore_n 1, 1) := by decide +kernel
theorem eP_tiredTogether_2 : decode prog_2_method_20_code 2 = .ok (.iconst 0, 1) := by decide +kernel
theorem eP_tiredTogether_3 : decode prog_2_method_20_code 3 = .ok (.istore_n 2, 1) := by decide +kernel
theorem eP_tiredTogether_4 : decode prog_2_method_20_code 4 = .ok (.iload_n 2, 1) := by decide +kernel
theorem eP_tiredTogether_5 : decode prog_2_method_20_code 5 = .ok (.aload_n 0, 1) := by decide +kernel
theorem eP_tiredTogether_6 : decode prog_2_method_20_code 6 = .ok (.getfield 19, 3) := by decide +kernel
theorem eP_tiredTogether_9 : decode prog_2_method_20_code 9 = .ok (.if_icmp .ge 20, 3) := by decide +kernel
theorem eP_tiredTogether_12 : decode prog_2_method_20_code 12 = .ok (.iload_n 1, 1) := by decide +kernel
theorem eP_tiredTogether_13 : decode prog_2_method_20_code 13 = .ok (.aload_n 0, 1) := by decide +kernel
theorem eP_tiredTogether_14 : decode prog_2_method_20_code 14 = .ok (.getfield 24, 3) := by decide +kernel
theorem eP_tiredTogether_17 : decode prog_2_method_20_code 17 = .ok (.iload_n 2, 1) := by decide +kernel
theorem eP_tiredTogether_18 : decode prog_2_method_20_code 18 = .ok (.aaload, 1) := by decide +kernel
theorem eP_tiredTogether_19 : decode prog_2_method_20_code 19 = .ok (.iconst 5, 1) := by decide +kernel
theorem eP_tiredTogether_20 : decode prog_2_method_20_code 20 = .ok (.iaload, 1) := by decide +kernel
theorem eP_tiredTogether_21 : decode prog_2_method_20_code 21 = .ok (.iadd, 1) := by decide +kernel
theorem eP_tiredTogether_22 : decode prog_2_method_20_code 22 = .ok (.istore_n 1, 1) := by decide +kernel
theorem eP_tiredTogether_23 : decode prog_2_method_20_code 23 = .ok (.iinc 2 1, 3) := by decide +kernel
theorem eP_tiredTogether_26 : decode prog_2_method_20_code 26 = .ok (.goto (-22), 3) := by decide +kernel
theorem eP_tiredTogether_29 : decode prog_2_method_20_code 29 = .ok (.iload_n 1, 1) := by decide +kernel
theorem eP_tiredTogether_30 : decode prog_2_method_20_code 30 = .ok (.ireturn, 1) := by decide +kernel
theorem eW_filed_0 : decode prog_1_method_15_code 0 = .ok (.iload_n 1, 1) := by decide +kernel
theorem eW_filed_1 : decode prog_1_method_15_code 1 = .ok (.invokestatic 111, 3) := by decide +kernel
theorem eW_filed_4 : decode prog_1_method_15_code 4 = .ok (.ifCond .eq 14, 3) := by decide +kernel
theorem eW_filed_7 : decode prog_1_method_15_code 7 = .ok (.aload_n 0, 1) := by decide +kernel
theorem eW_filed_8 : decode prog_1_method_15_code 8 = .ok (.getfield 10, 3) := by decide +kernel
theorem eW_filed_11 : decode prog_1_method_15_code 11 = .ok (.iload_n 1, 1) := by decide +kernel
theorem eW_filed_12 : decode prog_1_method_15_code 12 = .ok (.invokevirtual 155, 3) := by decide +kernel
theorem eW_filed_15 : decode prog_1_method_15_code 15 = .ok (.goto 9, 3) := by decide +kernel
theorem eW_filed_18 : decode prog_1_method_15_code 18 = .ok (.aload_n 0, 1) := by decide +kernel
theorem eW_filed_19 : decode prog_1_method_15_code 19 = .ok (.ldc 51, 2) := by decide +kernel
theorem eW_filed_21 : decode prog_1_method_15_code 21 = .ok (.invokevirtual 52, 3) := by decide +kernel
theorem eW_filed_24 : decode prog_1_method_15_code 24 = .ok (.ireturn, 1) := by decide +kernel
theorem eP_filesWith_0 : decode prog_2_method_19_code 0 = .ok (.iconst 0, 1) := by decide +kernel
theorem eP_filesWith_1 : decode prog_2_method_19_code 1 = .ok (.istore_n 2, 1) := by decide +kernel
theorem eP_filesWith_2 : decode prog_2_method_19_code 2 = .ok (.iconst 0, 1) := by decide +kernel
theorem eP_filesWith_3 : decode prog_2_method_19_code 3 = .ok (.istore_n 3, 1) := by decide +kernel
theorem eP_filesWith_4 : decode prog_2_method_19_code 4 = .ok (.iload_n 3, 1) := by decide +kernel
theorem eP_filesWith_5 : decode prog_2_method_19_code 5 = .ok (.aload_n 0, 1) := by decide +kernel
theorem eP_filesWith_6 : decode prog_2_method_19_code 6 = .ok (.getfield 19, 3) := by decide +kernel
theorem eP_filesWith_9 : decode prog_2_method_19_code 9 = .ok (.if_icmp .ge 24, 3) := by decide +kernel
theorem eP_filesWith_12 : decode prog_2_method_19_code 12 = .ok (.iload_n 2, 1) := by decide +kernel
theorem eP_filesWith_13 : decode prog_2_method_19_code 13 = .ok (.aload_n 0, 1) := by decide +kernel
theorem eP_filesWith_14 : decode prog_2_method_19_code 14 = .ok (.getfield 24, 3) := by decide +kernel
theorem eP_filesWith_17 : decode prog_2_method_19_code 17 = .ok (.iload_n 3, 1) := by decide +kernel
theorem eP_filesWith_18 : decode prog_2_method_19_code 18 = .ok (.aaload, 1) := by decide +kernel
theorem eP_filesWith_19 : decode prog_2_method_19_code 19 = .ok (.iconst 4, 1) := by decide +kernel
theorem eP_filesWith_20 : decode prog_2_method_19_code 20 = .ok (.iaload, 1) := by decide +kernel
theorem eP_filesWith_21 : decode prog_2_method_19_code 21 = .ok (.iload_n 1, 1) := by decide +kernel
theorem eP_filesWith_22 : decode prog_2_method_19_code 22 = .ok (.ishr, 1) := by decide +kernel
theorem eP_filesWith_23 : decode prog_2_method_19_code 23 = .ok (.iconst 1, 1) := by decide +kernel
theorem eP_filesWith_24 : decode prog_2_method_19_code 24 = .ok (.iand, 1) := by decide +kernel
theorem eP_filesWith_25 : decode prog_2_method_19_code 25 = .ok (.iadd, 1) := by decide +kernel
theorem eP_filesWith_26 : decode prog_2_method_19_code 26 = .ok (.istore_n 2, 1) := by decide +kernel
theorem eP_filesWith_27 : decode prog_2_method_19_code 27 = .ok (.iinc 3 1, 3) := by decide +kernel
theorem eP_filesWith_30 : decode prog_2_method_19_code 30 = .ok (.goto (-26), 3) := by decide +kernel
theorem eP_filesWith_33 : decode prog_2_method_19_code 33 = .ok (.iload_n 2, 1) := by decide +kernel
theorem eP_filesWith_34 : decode prog_2_method_19_code 34 = .ok (.ireturn, 1) := by decide +kernel
theorem eW_safe_0 : decode prog_1_method_16_code 0 = .ok (.iload_n 1, 1) := by decide +kernel
theorem eW_safe_1 : decode prog_1_method_16_code 1 = .ok (.invokestatic 63, 3) := by decide +kernel
theorem eW_safe_4 : decode prog_1_method_16_code 4 = .ok (.ifCond .eq 13, 3) := by decide +kernel
theorem eW_safe_7 : decode prog_1_method_16_code 7 = .ok (.iload_n 2, 1) := by decide +kernel
theorem eW_safe_8 : decode prog_1_method_16_code 8 = .ok (.iconst 1, 1) := by decide +kernel
theorem eW_safe_9 : decode prog_1_method_16_code 9 = .ok (.bipush 30, 2) := by decide +kernel
theorem eW_safe_11 : decode prog_1_method_16_code 11 = .ok (.invokestatic 82, 3) := by decide +kernel
theorem eW_safe_14 : decode prog_1_method_16_code 14 = .ok (.ifCond .ne 10, 3) := by decide +kernel
theorem eW_safe_17 : decode prog_1_method_16_code 17 = .ok (.aload_n 0, 1) := by decide +kernel
theorem eW_safe_18 : decode prog_1_method_16_code 18 = .ok (.ldc 51, 2) := by decide +kernel
theorem eW_safe_20 : decode prog_1_method_16_code 20 = .ok (.invokevirtual 52, 3) := by decide +kernel
theorem eW_safe_23 : decode prog_1_method_16_code 23 = .ok (.ireturn, 1) := by decide +kernel
theorem eW_safe_24 : decode prog_1_method_16_code 24 = .ok (.aload_n 0, 1) := by decide +kernel
theorem eW_safe_25 : decode prog_1_method_16_code 25 = .ok (.sipush 240, 3) := by decide +kernel
theorem eW_safe_28 : decode prog_1_method_16_code 28 = .ok (.iload_n 2, 1) := by decide +kernel
theorem eW_safe_29 : decode prog_1_method_16_code 29 = .ok (.iadd, 1) := by decide +kernel
theorem eW_safe_30 : decode prog_1_method_16_code 30 = .ok (.invokevirtual 158, 3) := by decide +kernel
theorem eW_safe_33 : decode prog_1_method_16_code 33 = .ok (.aload_n 0, 1) := by decide +kernel
theorem eW_safe_34 : decode prog_1_method_16_code 34 = .ok (.iload_n 1, 1) := by decide +kernel
theorem eW_safe_35 : decode prog_1_method_16_code 35 = .ok (.iload_n 2, 1) := by decide +kernel
theorem eW_safe_36 : decode prog_1_method_16_code 36 = .ok (.invokevirtual 162, 3) := by decide +kernel
theorem eW_safe_39 : decode prog_1_method_16_code 39 = .ok (.istore_n 3, 1) := by decide +kernel
theorem eW_safe_40 : decode prog_1_method_16_code 40 = .ok (.iload_n 3, 1) := by decide +kernel
theorem eW_safe_41 : decode prog_1_method_16_code 41 = .ok (.ifCond .ge 12, 3) := by decide +kernel
theorem eW_safe_44 : decode prog_1_method_16_code 44 = .ok (.aload_n 0, 1) := by decide +kernel
theorem eW_safe_45 : decode prog_1_method_16_code 45 = .ok (.ldc 118, 2) := by decide +kernel
theorem eW_safe_47 : decode prog_1_method_16_code 47 = .ok (.invokevirtual 52, 3) := by decide +kernel
theorem eW_safe_50 : decode prog_1_method_16_code 50 = .ok (.goto 4, 3) := by decide +kernel
theorem eW_safe_53 : decode prog_1_method_16_code 53 = .ok (.iload_n 3, 1) := by decide +kernel
theorem eW_safe_54 : decode prog_1_method_16_code 54 = .ok (.ireturn, 1) := by decide +kernel
theorem eW_foresee_0 : decode prog_1_method_41_code 0 = .ok (.iconst 0, 1) := by decide +kernel
theorem eW_foresee_1 : decode prog_1_method_41_code 1 = .ok (.istore_n 2, 1) := by decide +kernel
theorem eW_foresee_2 : decode prog_1_method_41_code 2 = .ok (.iload_n 2, 1) := by decide +kernel
theorem eW_foresee_3 : decode prog_1_method_41_code 3 = .ok (.iload_n 1, 1) := by decide +kernel
theorem eW_foresee_4 : decode prog_1_method_41_code 4 = .ok (.if_icmp .ge 49, 3) := by decide +kernel
theorem eW_foresee_7 : decode prog_1_method_41_code 7 = .ok (.iload_n 2, 1) := by decide +kernel
theorem eW_foresee_8 : decode prog_1_method_41_code 8 = .ok (.aload_n 0, 1) := by decide +kernel
theorem eW_foresee_9 : decode prog_1_method_41_code 9 = .ok (.getfield 43, 3) := by decide +kernel
theorem eW_foresee_12 : decode prog_1_method_41_code 12 = .ok (.arraylength, 1) := by decide +kernel
theorem eW_foresee_13 : decode prog_1_method_41_code 13 = .ok (.if_icmp .ge 40, 3) := by decide +kernel
theorem eW_foresee_16 : decode prog_1_method_41_code 16 = .ok (.aload_n 0, 1) := by decide +kernel
theorem eW_foresee_17 : decode prog_1_method_41_code 17 = .ok (.getfield 43, 3) := by decide +kernel
theorem eW_foresee_20 : decode prog_1_method_41_code 20 = .ok (.iload_n 2, 1) := by decide +kernel
theorem eW_foresee_21 : decode prog_1_method_41_code 21 = .ok (.aload_n 0, 1) := by decide +kernel
theorem eW_foresee_22 : decode prog_1_method_41_code 22 = .ok (.getfield 10, 3) := by decide +kernel
theorem eW_foresee_25 : decode prog_1_method_41_code 25 = .ok (.aload_n 0, 1) := by decide +kernel
theorem eW_foresee_26 : decode prog_1_method_41_code 26 = .ok (.getfield 10, 3) := by decide +kernel
theorem eW_foresee_29 : decode prog_1_method_41_code 29 = .ok (.getfield 86, 3) := by decide +kernel
theorem eW_foresee_32 : decode prog_1_method_41_code 32 = .ok (.iload_n 2, 1) := by decide +kernel
theorem eW_foresee_33 : decode prog_1_method_41_code 33 = .ok (.iadd, 1) := by decide +kernel
theorem eW_foresee_34 : decode prog_1_method_41_code 34 = .ok (.aload_n 0, 1) := by decide +kernel
theorem eW_foresee_35 : decode prog_1_method_41_code 35 = .ok (.getfield 10, 3) := by decide +kernel
theorem eW_foresee_38 : decode prog_1_method_41_code 38 = .ok (.getfield 56, 3) := by decide +kernel
theorem eW_foresee_41 : decode prog_1_method_41_code 41 = .ok (.iconst 0, 1) := by decide +kernel
theorem eW_foresee_42 : decode prog_1_method_41_code 42 = .ok (.iaload, 1) := by decide +kernel
theorem eW_foresee_43 : decode prog_1_method_41_code 43 = .ok (.invokevirtual 145, 3) := by decide +kernel
theorem eW_foresee_46 : decode prog_1_method_41_code 46 = .ok (.iastore, 1) := by decide +kernel
theorem eW_foresee_47 : decode prog_1_method_41_code 47 = .ok (.iinc 2 1, 3) := by decide +kernel
theorem eW_foresee_50 : decode prog_1_method_41_code 50 = .ok (.goto (-48), 3) := by decide +kernel
theorem eW_foresee_53 : decode prog_1_method_41_code 53 = .ok (.return_, 1) := by decide +kernel
theorem eW_firstSilence_0 : decode prog_1_method_44_code 0 = .ok (.aload_n 0, 1) := by decide +kernel
theorem eW_firstSilence_1 : decode prog_1_method_44_code 1 = .ok (.getfield 10, 3) := by decide +kernel
theorem eW_firstSilence_4 : decode prog_1_method_44_code 4 = .ok (.iload_n 1, 1) := by decide +kernel
theorem eW_firstSilence_5 : decode prog_1_method_44_code 5 = .ok (.invokevirtual 119, 3) := by decide +kernel
theorem eW_firstSilence_8 : decode prog_1_method_44_code 8 = .ok (.istore_n 3, 1) := by decide +kernel
theorem eW_firstSilence_9 : decode prog_1_method_44_code 9 = .ok (.iconst 0, 1) := by decide +kernel
theorem eW_firstSilence_10 : decode prog_1_method_44_code 10 = .ok (.istore 4, 2) := by decide +kernel
theorem eW_firstSilence_12 : decode prog_1_method_44_code 12 = .ok (.iconst 0, 1) := by decide +kernel
theorem eW_firstSilence_13 : decode prog_1_method_44_code 13 = .ok (.istore 5, 2) := by decide +kernel
theorem eW_firstSilence_15 : decode prog_1_method_44_code 15 = .ok (.iload 5, 2) := by decide +kernel
theorem eW_firstSilence_17 : decode prog_1_method_44_code 17 = .ok (.sipush 240, 3) := by decide +kernel
theorem eW_firstSilence_20 : decode prog_1_method_44_code 20 = .ok (.iload_n 2, 1) := by decide +kernel
theorem eW_firstSilence_21 : decode prog_1_method_44_code 21 = .ok (.iadd, 1) := by decide +kernel
theorem eW_firstSilence_22 : decode prog_1_method_44_code 22 = .ok (.if_icmp .ge 54, 3) := by decide +kernel
theorem eW_firstSilence_25 : decode prog_1_method_44_code 25 = .ok (.iload 5, 2) := by decide +kernel
theorem eW_firstSilence_27 : decode prog_1_method_44_code 27 = .ok (.aload_n 0, 1) := by decide +kernel
theorem eW_firstSilence_28 : decode prog_1_method_44_code 28 = .ok (.getfield 43, 3) := by decide +kernel
theorem eW_firstSilence_31 : decode prog_1_method_44_code 31 = .ok (.arraylength, 1) := by decide +kernel
theorem eW_firstSilence_32 : decode prog_1_method_44_code 32 = .ok (.if_icmp .ge 44, 3) := by decide +kernel
theorem eW_firstSilence_35 : decode prog_1_method_44_code 35 = .ok (.aload_n 0, 1) := by decide +kernel
theorem eW_firstSilence_36 : decode prog_1_method_44_code 36 = .ok (.getfield 43, 3) := by decide +kernel
theorem eW_firstSilence_39 : decode prog_1_method_44_code 39 = .ok (.iload 5, 2) := by decide +kernel
theorem eW_firstSilence_41 : decode prog_1_method_44_code 41 = .ok (.iaload, 1) := by decide +kernel
theorem eW_firstSilence_42 : decode prog_1_method_44_code 42 = .ok (.iload_n 3, 1) := by decide +kernel
theorem eW_firstSilence_43 : decode prog_1_method_44_code 43 = .ok (.iand, 1) := by decide +kernel
theorem eW_firstSilence_44 : decode prog_1_method_44_code 44 = .ok (.ifCond .ne 10, 3) := by decide +kernel
theorem eW_firstSilence_47 : decode prog_1_method_44_code 47 = .ok (.iload 4, 2) := by decide +kernel
theorem eW_firstSilence_49 : decode prog_1_method_44_code 49 = .ok (.iconst 1, 1) := by decide +kernel
theorem eW_firstSilence_50 : decode prog_1_method_44_code 50 = .ok (.iadd, 1) := by decide +kernel
theorem eW_firstSilence_51 : decode prog_1_method_44_code 51 = .ok (.goto 4, 3) := by decide +kernel
theorem eW_firstSilence_54 : decode prog_1_method_44_code 54 = .ok (.iconst 0, 1) := by decide +kernel
theorem eW_firstSilence_55 : decode prog_1_method_44_code 55 = .ok (.istore 4, 2) := by decide +kernel
theorem eW_firstSilence_57 : decode prog_1_method_44_code 57 = .ok (.iload 4, 2) := by decide +kernel
theorem eW_firstSilence_59 : decode prog_1_method_44_code 59 = .ok (.iload_n 2, 1) := by decide +kernel
theorem eW_firstSilence_60 : decode prog_1_method_44_code 60 = .ok (.if_icmp .lt 10, 3) := by decide +kernel
theorem eW_firstSilence_63 : decode prog_1_method_44_code 63 = .ok (.iload 5, 2) := by decide +kernel
theorem eW_firstSilence_65 : decode prog_1_method_44_code 65 = .ok (.iload_n 2, 1) := by decide +kernel
theorem eW_firstSilence_66 : decode prog_1_method_44_code 66 = .ok (.isub, 1) := by decide +kernel
theorem eW_firstSilence_67 : decode prog_1_method_44_code 67 = .ok (.iconst 1, 1) := by decide +kernel
theorem eW_firstSilence_68 : decode prog_1_method_44_code 68 = .ok (.iadd, 1) := by decide +kernel
theorem eW_firstSilence_69 : decode prog_1_method_44_code 69 = .ok (.ireturn, 1) := by decide +kernel
theorem eW_firstSilence_70 : decode prog_1_method_44_code 70 = .ok (.iinc 5 1, 3) := by decide +kernel
theorem eW_firstSilence_73 : decode prog_1_method_44_code 73 = .ok (.goto (-58), 3) := by decide +kernel
theorem eW_firstSilence_76 : decode prog_1_method_44_code 76 = .ok (.iconst (-1), 1) := by decide +kernel
theorem eW_firstSilence_77 : decode prog_1_method_44_code 77 = .ok (.ireturn, 1) := by decide +kernel
theorem eW_where_0 : decode prog_1_method_17_code 0 = .ok (.iload_n 1, 1) := by decide +kernel
theorem eW_where_1 : decode prog_1_method_17_code 1 = .ok (.iconst 1, 1) := by decide +kernel
theorem eW_where_2 : decode prog_1_method_17_code 2 = .ok (.bipush 30, 2) := by decide +kernel
theorem eW_where_4 : decode prog_1_method_17_code 4 = .ok (.invokestatic 82, 3) := by decide +kernel
theorem eW_where_7 : decode prog_1_method_17_code 7 = .ok (.ifCond .ne 10, 3) := by decide +kernel
theorem eW_where_10 : decode prog_1_method_17_code 10 = .ok (.aload_n 0, 1) := by decide +kernel
theorem eW_where_11 : decode prog_1_method_17_code 11 = .ok (.ldc 51, 2) := by decide +kernel
theorem eW_where_13 : decode prog_1_method_17_code 13 = .ok (.invokevirtual 52, 3) := by decide +kernel
theorem eW_where_16 : decode prog_1_method_17_code 16 = .ok (.ireturn, 1) := by decide +kernel
theorem eW_where_17 : decode prog_1_method_17_code 17 = .ok (.aload_n 0, 1) := by decide +kernel
theorem eW_where_18 : decode prog_1_method_17_code 18 = .ok (.sipush 240, 3) := by decide +kernel
theorem eW_where_21 : decode prog_1_method_17_code 21 = .ok (.iload_n 1, 1) := by decide +kernel
theorem eW_where_22 : decode prog_1_method_17_code 22 = .ok (.iadd, 1) := by decide +kernel
theorem eW_where_23 : decode prog_1_method_17_code 23 = .ok (.invokevirtual 158, 3) := by decide +kernel
theorem eW_where_26 : decode prog_1_method_17_code 26 = .ok (.sipush 241, 3) := by decide +kernel
theorem eW_where_29 : decode prog_1_method_17_code 29 = .ok (.istore_n 2, 1) := by decide +kernel
theorem eW_where_30 : decode prog_1_method_17_code 30 = .ok (.iconst (-1), 1) := by decide +kernel
theorem eW_where_31 : decode prog_1_method_17_code 31 = .ok (.istore_n 3, 1) := by decide +kernel
theorem eW_where_32 : decode prog_1_method_17_code 32 = .ok (.iconst 0, 1) := by decide +kernel
theorem eW_where_33 : decode prog_1_method_17_code 33 = .ok (.istore 4, 2) := by decide +kernel
theorem eW_where_35 : decode prog_1_method_17_code 35 = .ok (.iload 4, 2) := by decide +kernel
theorem eW_where_37 : decode prog_1_method_17_code 37 = .ok (.bipush 10, 2) := by decide +kernel
theorem eW_where_39 : decode prog_1_method_17_code 39 = .ok (.if_icmp .ge 35, 3) := by decide +kernel
theorem eW_where_42 : decode prog_1_method_17_code 42 = .ok (.aload_n 0, 1) := by decide +kernel
theorem eW_where_43 : decode prog_1_method_17_code 43 = .ok (.iload 4, 2) := by decide +kernel
theorem eW_where_45 : decode prog_1_method_17_code 45 = .ok (.iload_n 1, 1) := by decide +kernel
theorem eW_where_46 : decode prog_1_method_17_code 46 = .ok (.invokevirtual 162, 3) := by decide +kernel
theorem eW_where_49 : decode prog_1_method_17_code 49 = .ok (.istore 5, 2) := by decide +kernel
theorem eW_where_51 : decode prog_1_method_17_code 51 = .ok (.iload 5, 2) := by decide +kernel
theorem eW_where_53 : decode prog_1_method_17_code 53 = .ok (.ifCond .lt 15, 3) := by decide +kernel
theorem eW_where_56 : decode prog_1_method_17_code 56 = .ok (.iload 5, 2) := by decide +kernel
theorem eW_where_58 : decode prog_1_method_17_code 58 = .ok (.iload_n 2, 1) := by decide +kernel
theorem eW_where_59 : decode prog_1_method_17_code 59 = .ok (.if_icmp .ge 9, 3) := by decide +kernel
theorem eW_where_62 : decode prog_1_method_17_code 62 = .ok (.iload 5, 2) := by decide +kernel
theorem eW_where_64 : decode prog_1_method_17_code 64 = .ok (.istore_n 2, 1) := by decide +kernel
theorem eW_where_65 : decode prog_1_method_17_code 65 = .ok (.iload 4, 2) := by decide +kernel
theorem eW_where_67 : decode prog_1_method_17_code 67 = .ok (.istore_n 3, 1) := by decide +kernel
theorem eW_where_68 : decode prog_1_method_17_code 68 = .ok (.iinc 4 1, 3) := by decide +kernel
theorem eW_where_71 : decode prog_1_method_17_code 71 = .ok (.goto (-36), 3) := by decide +kernel
theorem eW_where_74 : decode prog_1_method_17_code 74 = .ok (.iload_n 3, 1) := by decide +kernel
theorem eW_where_75 : decode prog_1_method_17_code 75 = .ok (.ifCond .ge 12, 3) := by decide +kernel
theorem eW_where_78 : decode prog_1_method_17_code 78 = .ok (.aload_n 0, 1) := by decide +kernel
theorem eW_where_79 : decode prog_1_method_17_code 79 = .ok (.ldc 118, 2) := by decide +kernel
theorem eW_where_81 : decode prog_1_method_17_code 81 = .ok (.invokevirtual 52, 3) := by decide +kernel
theorem eW_where_84 : decode prog_1_method_17_code 84 = .ok (.goto 4, 3) := by decide +kernel
theorem eW_where_87 : decode prog_1_method_17_code 87 = .ok (.iload_n 3, 1) := by decide +kernel
theorem eW_where_88 : decode prog_1_method_17_code 88 = .ok (.ireturn, 1) := by decide +kernel
theorem eW_quiet_0 : decode prog_1_method_18_code 0 = .ok (.iload_n 1, 1) := by decide +kernel
theorem eW_quiet_1 : decode prog_1_method_18_code 1 = .ok (.invokestatic 63, 3) := by decide +kernel
theorem eW_quiet_4 : decode prog_1_method_18_code 4 = .ok (.ifCond .eq 14, 3) := by decide +kernel
theorem eW_quiet_7 : decode prog_1_method_18_code 7 = .ok (.iload_n 2, 1) := by decide +kernel
theorem eW_quiet_8 : decode prog_1_method_18_code 8 = .ok (.iconst 1, 1) := by decide +kernel
theorem eW_quiet_9 : decode prog_1_method_18_code 9 = .ok (.sipush 240, 3) := by decide +kernel
theorem eW_quiet_12 : decode prog_1_method_18_code 12 = .ok (.invokestatic 82, 3) := by decide +kernel
theorem eW_quiet_15 : decode prog_1_method_18_code 15 = .ok (.ifCond .ne 10, 3) := by decide +kernel
theorem eW_quiet_18 : decode prog_1_method_18_code 18 = .ok (.aload_n 0, 1) := by decide +kernel
theorem eW_quiet_19 : decode prog_1_method_18_code 19 = .ok (.ldc 51, 2) := by decide +kernel
theorem eW_quiet_21 : decode prog_1_method_18_code 21 = .ok (.invokevirtual 52, 3) := by decide +kernel
theorem eW_quiet_24 : decode prog_1_method_18_code 24 = .ok (.ireturn, 1) := by decide +kernel
theorem eW_quiet_25 : decode prog_1_method_18_code 25 = .ok (.aload_n 0, 1) := by decide +kernel
theorem eW_quiet_26 : decode prog_1_method_18_code 26 = .ok (.getfield 10, 3) := by decide +kernel
theorem eW_quiet_29 : decode prog_1_method_18_code 29 = .ok (.aload_n 0, 1) := by decide +kernel
theorem eW_quiet_30 : decode prog_1_method_18_code 30 = .ok (.getfield 10, 3) := by decide +kernel
theorem eW_quiet_33 : decode prog_1_method_18_code 33 = .ok (.iload_n 1, 1) := by decide +kernel
theorem eW_quiet_34 : decode prog_1_method_18_code 34 = .ok (.invokevirtual 119, 3) := by decide +kernel
theorem eW_quiet_37 : decode prog_1_method_18_code 37 = .ok (.iload_n 2, 1) := by decide +kernel
theorem eW_quiet_38 : decode prog_1_method_18_code 38 = .ok (.aload_n 0, 1) := by decide +kernel
theorem eW_quiet_39 : decode prog_1_method_18_code 39 = .ok (.getfield 10, 3) := by decide +kernel
theorem eW_quiet_42 : decode prog_1_method_18_code 42 = .ok (.getfield 56, 3) := by decide +kernel
theorem eW_quiet_45 : decode prog_1_method_18_code 45 = .ok (.iconst 0, 1) := by decide +kernel
theorem eW_quiet_46 : decode prog_1_method_18_code 46 = .ok (.iaload, 1) := by decide +kernel
theorem eW_quiet_47 : decode prog_1_method_18_code 47 = .ok (.invokevirtual 165, 3) := by decide +kernel
theorem eW_quiet_50 : decode prog_1_method_18_code 50 = .ok (.ireturn, 1) := by decide +kernel
theorem eP_silentMinutes_0 : decode prog_2_method_10_code 0 = .ok (.iconst 0, 1) := by decide +kernel
theorem eP_silentMinutes_1 : decode prog_2_method_10_code 1 = .ok (.istore 4, 2) := by decide +kernel
theorem eP_silentMinutes_3 : decode prog_2_method_10_code 3 = .ok (.iconst 0, 1) := by decide +kernel
theorem eP_silentMinutes_4 : decode prog_2_method_10_code 4 = .ok (.istore 5, 2) := by decide +kernel
theorem eP_silentMinutes_6 : decode prog_2_method_10_code 6 = .ok (.iload 5, 2) := by decide +kernel
theorem eP_silentMinutes_8 : decode prog_2_method_10_code 8 = .ok (.iload_n 2, 1) := by decide +kernel
theorem eP_silentMinutes_9 : decode prog_2_method_10_code 9 = .ok (.if_icmp .ge 36, 3) := by decide +kernel
theorem eP_silentMinutes_12 : decode prog_2_method_10_code 12 = .ok (.iload 4, 2) := by decide +kernel
theorem eP_silentMinutes_14 : decode prog_2_method_10_code 14 = .ok (.aload_n 0, 1) := by decide +kernel
theorem eP_silentMinutes_15 : decode prog_2_method_10_code 15 = .ok (.aload_n 0, 1) := by decide +kernel
theorem eP_silentMinutes_16 : decode prog_2_method_10_code 16 = .ok (.getfield 9, 3) := by decide +kernel
theorem eP_silentMinutes_19 : decode prog_2_method_10_code 19 = .ok (.iload 5, 2) := by decide +kernel
theorem eP_silentMinutes_21 : decode prog_2_method_10_code 21 = .ok (.iadd, 1) := by decide +kernel
theorem eP_silentMinutes_22 : decode prog_2_method_10_code 22 = .ok (.iload_n 3, 1) := by decide +kernel
theorem eP_silentMinutes_23 : decode prog_2_method_10_code 23 = .ok (.invokevirtual 36, 3) := by decide +kernel
theorem eP_silentMinutes_26 : decode prog_2_method_10_code 26 = .ok (.iload_n 1, 1) := by decide +kernel
theorem eP_silentMinutes_27 : decode prog_2_method_10_code 27 = .ok (.iand, 1) := by decide +kernel
theorem eP_silentMinutes_28 : decode prog_2_method_10_code 28 = .ok (.ifCond .ne 7, 3) := by decide +kernel
theorem eP_silentMinutes_31 : decode prog_2_method_10_code 31 = .ok (.iconst 1, 1) := by decide +kernel
theorem eP_silentMinutes_32 : decode prog_2_method_10_code 32 = .ok (.goto 4, 3) := by decide +kernel
theorem eP_silentMinutes_35 : decode prog_2_method_10_code 35 = .ok (.iconst 0, 1) := by decide +kernel
theorem eP_silentMinutes_36 : decode prog_2_method_10_code 36 = .ok (.iadd, 1) := by decide +kernel
theorem eP_silentMinutes_37 : decode prog_2_method_10_code 37 = .ok (.istore 4, 2) := by decide +kernel
theorem eP_silentMinutes_39 : decode prog_2_method_10_code 39 = .ok (.iinc 5 1, 3) := by decide +kernel
theorem eP_silentMinutes_42 : decode prog_2_method_10_code 42 = .ok (.goto (-36), 3) := by decide +kernel
theorem eP_silentMinutes_45 : decode prog_2_method_10_code 45 = .ok (.iload 4, 2) := by decide +kernel
theorem eP_silentMinutes_47 : decode prog_2_method_10_code 47 = .ok (.ireturn, 1) := by decide +kernel
theorem eW_worst_0 : decode prog_1_method_19_code 0 = .ok (.iload_n 1, 1) := by decide +kernel
theorem eW_worst_1 : decode prog_1_method_19_code 1 = .ok (.invokestatic 63, 3) := by decide +kernel
theorem eW_worst_4 : decode prog_1_method_19_code 4 = .ok (.ifCond .eq 14, 3) := by decide +kernel
theorem eW_worst_7 : decode prog_1_method_19_code 7 = .ok (.iload_n 2, 1) := by decide +kernel
theorem eW_worst_8 : decode prog_1_method_19_code 8 = .ok (.iconst 1, 1) := by decide +kernel
theorem eW_worst_9 : decode prog_1_method_19_code 9 = .ok (.sipush 240, 3) := by decide +kernel
theorem eW_worst_12 : decode prog_1_method_19_code 12 = .ok (.invokestatic 82, 3) := by decide +kernel
theorem eW_worst_15 : decode prog_1_method_19_code 15 = .ok (.ifCond .ne 10, 3) := by decide +kernel
theorem eW_worst_18 : decode prog_1_method_19_code 18 = .ok (.aload_n 0, 1) := by decide +kernel
theorem eW_worst_19 : decode prog_1_method_19_code 19 = .ok (.ldc 51, 2) := by decide +kernel
theorem eW_worst_21 : decode prog_1_method_19_code 21 = .ok (.invokevirtual 52, 3) := by decide +kernel
theorem eW_worst_24 : decode prog_1_method_19_code 24 = .ok (.ireturn, 1) := by decide +kernel
theorem eW_worst_25 : decode prog_1_method_19_code 25 = .ok (.aload_n 0, 1) := by decide +kernel
theorem eW_worst_26 : decode prog_1_method_19_code 26 = .ok (.iload_n 2, 1) := by decide +kernel
theorem eW_worst_27 : decode prog_1_method_19_code 27 = .ok (.invokevirtual 158, 3) := by decide +kernel
theorem eW_worst_30 : decode prog_1_method_19_code 30 = .ok (.aload_n 0, 1) := by decide +kernel
theorem eW_worst_31 : decode prog_1_method_19_code 31 = .ok (.getfield 10, 3) := by decide +kernel
theorem eW_worst_34 : decode prog_1_method_19_code 34 = .ok (.iload_n 1, 1) := by decide +kernel
theorem eW_worst_35 : decode prog_1_method_19_code 35 = .ok (.invokevirtual 119, 3) := by decide +kernel
theorem eW_worst_38 : decode prog_1_method_19_code 38 = .ok (.istore_n 3, 1) := by decide +kernel
theorem eW_worst_39 : decode prog_1_method_19_code 39 = .ok (.iconst 0, 1) := by decide +kernel
theorem eW_worst_40 : decode prog_1_method_19_code 40 = .ok (.istore 4, 2) := by decide +kernel
theorem eW_worst_42 : decode prog_1_method_19_code 42 = .ok (.iconst (-1), 1) := by decide +kernel
theorem eW_worst_43 : decode prog_1_method_19_code 43 = .ok (.istore 5, 2) := by decide +kernel
theorem eW_worst_45 : decode prog_1_method_19_code 45 = .ok (.iconst 0, 1) := by decide +kernel
theorem eW_worst_46 : decode prog_1_method_19_code 46 = .ok (.istore 6, 2) := by decide +kernel
theorem eW_worst_48 : decode prog_1_method_19_code 48 = .ok (.iload 6, 2) := by decide +kernel
theorem eW_worst_50 : decode prog_1_method_19_code 50 = .ok (.aload_n 0, 1) := by decide +kernel
theorem eW_worst_51 : decode prog_1_method_19_code 51 = .ok (.getfield 10, 3) := by decide +kernel
theorem eW_worst_54 : decode prog_1_method_19_code 54 = .ok (.getfield 168, 3) := by decide +kernel
theorem eW_worst_57 : decode prog_1_method_19_code 57 = .ok (.if_icmp .ge 36, 3) := by decide +kernel
theorem eW_worst_60 : decode prog_1_method_19_code 60 = .ok (.aload_n 0, 1) := by decide +kernel
theorem eW_worst_61 : decode prog_1_method_19_code 61 = .ok (.iconst 1, 1) := by decide +kernel
theorem eW_worst_62 : decode prog_1_method_19_code 62 = .ok (.iload 6, 2) := by decide +kernel
theorem eW_worst_64 : decode prog_1_method_19_code 64 = .ok (.ishl, 1) := by decide +kernel
theorem eW_worst_65 : decode prog_1_method_19_code 65 = .ok (.iload_n 3, 1) := by decide +kernel
theorem eW_worst_66 : decode prog_1_method_19_code 66 = .ok (.iload_n 2, 1) := by decide +kernel
theorem eW_worst_67 : decode prog_1_method_19_code 67 = .ok (.invokevirtual 171, 3) := by decide +kernel
theorem eW_worst_70 : decode prog_1_method_19_code 70 = .ok (.istore 7, 2) := by decide +kernel
theorem eW_worst_72 : decode prog_1_method_19_code 72 = .ok (.iload 7, 2) := by decide +kernel
theorem eW_worst_74 : decode prog_1_method_19_code 74 = .ok (.iload 4, 2) := by decide +kernel
theorem eW_worst_76 : decode prog_1_method_19_code 76 = .ok (.if_icmp .le 11, 3) := by decide +kernel
theorem eW_worst_79 : decode prog_1_method_19_code 79 = .ok (.iload 7, 2) := by decide +kernel
theorem eW_worst_81 : decode prog_1_method_19_code 81 = .ok (.istore 4, 2) := by decide +kernel
theorem eW_worst_83 : decode prog_1_method_19_code 83 = .ok (.iload 6, 2) := by decide +kernel
theorem eW_worst_85 : decode prog_1_method_19_code 85 = .ok (.istore 5, 2) := by decide +kernel
theorem eW_worst_87 : decode prog_1_method_19_code 87 = .ok (.iinc 6 1, 3) := by decide +kernel
theorem eW_worst_90 : decode prog_1_method_19_code 90 = .ok (.goto (-42), 3) := by decide +kernel
theorem eW_worst_93 : decode prog_1_method_19_code 93 = .ok (.iload 5, 2) := by decide +kernel
theorem eW_worst_95 : decode prog_1_method_19_code 95 = .ok (.ifCond .ge 12, 3) := by decide +kernel
theorem eW_worst_98 : decode prog_1_method_19_code 98 = .ok (.aload_n 0, 1) := by decide +kernel
theorem eW_worst_99 : decode prog_1_method_19_code 99 = .ok (.ldc 118, 2) := by decide +kernel
theorem eW_worst_101 : decode prog_1_method_19_code 101 = .ok (.invokevirtual 52, 3) := by decide +kernel
theorem eW_worst_104 : decode prog_1_method_19_code 104 = .ok (.goto 5, 3) := by decide +kernel
theorem eW_worst_107 : decode prog_1_method_19_code 107 = .ok (.iload 5, 2) := by decide +kernel
theorem eW_worst_109 : decode prog_1_method_19_code 109 = .ok (.ireturn, 1) := by decide +kernel
theorem eW_minutesAlone_0 : decode prog_1_method_42_code 0 = .ok (.iconst 0, 1) := by decide +kernel
theorem eW_minutesAlone_1 : decode prog_1_method_42_code 1 = .ok (.istore 4, 2) := by decide +kernel
theorem eW_minutesAlone_3 : decode prog_1_method_42_code 3 = .ok (.iconst 0, 1) := by decide +kernel
theorem eW_minutesAlone_4 : decode prog_1_method_42_code 4 = .ok (.istore 5, 2) := by decide +kernel
theorem eW_minutesAlone_6 : decode prog_1_method_42_code 6 = .ok (.iload 5, 2) := by decide +kernel
theorem eW_minutesAlone_8 : decode prog_1_method_42_code 8 = .ok (.iload_n 3, 1) := by decide +kernel
theorem eW_minutesAlone_9 : decode prog_1_method_42_code 9 = .ok (.if_icmp .ge 42, 3) := by decide +kernel
theorem eW_minutesAlone_12 : decode prog_1_method_42_code 12 = .ok (.iload 5, 2) := by decide +kernel
theorem eW_minutesAlone_14 : decode prog_1_method_42_code 14 = .ok (.aload_n 0, 1) := by decide +kernel
theorem eW_minutesAlone_15 : decode prog_1_method_42_code 15 = .ok (.getfield 43, 3) := by decide +kernel
theorem eW_minutesAlone_18 : decode prog_1_method_42_code 18 = .ok (.arraylength, 1) := by decide +kernel
theorem eW_minutesAlone_19 : decode prog_1_method_42_code 19 = .ok (.if_icmp .ge 32, 3) := by decide +kernel
theorem eW_minutesAlone_22 : decode prog_1_method_42_code 22 = .ok (.iload 4, 2) := by decide +kernel
theorem eW_minutesAlone_24 : decode prog_1_method_42_code 24 = .ok (.aload_n 0, 1) := by decide +kernel
theorem eW_minutesAlone_25 : decode prog_1_method_42_code 25 = .ok (.getfield 43, 3) := by decide +kernel
theorem eW_minutesAlone_28 : decode prog_1_method_42_code 28 = .ok (.iload 5, 2) := by decide +kernel
theorem eW_minutesAlone_30 : decode prog_1_method_42_code 30 = .ok (.iaload, 1) := by decide +kernel
theorem eW_minutesAlone_31 : decode prog_1_method_42_code 31 = .ok (.iload_n 2, 1) := by decide +kernel
theorem eW_minutesAlone_32 : decode prog_1_method_42_code 32 = .ok (.iand, 1) := by decide +kernel
theorem eW_minutesAlone_33 : decode prog_1_method_42_code 33 = .ok (.iload_n 1, 1) := by decide +kernel
theorem eW_minutesAlone_34 : decode prog_1_method_42_code 34 = .ok (.if_icmp .ne 7, 3) := by decide +kernel
theorem eW_minutesAlone_37 : decode prog_1_method_42_code 37 = .ok (.iconst 1, 1) := by decide +kernel
theorem eW_minutesAlone_38 : decode prog_1_method_42_code 38 = .ok (.goto 4, 3) := by decide +kernel
theorem eW_minutesAlone_41 : decode prog_1_method_42_code 41 = .ok (.iconst 0, 1) := by decide +kernel
theorem eW_minutesAlone_42 : decode prog_1_method_42_code 42 = .ok (.iadd, 1) := by decide +kernel
theorem eW_minutesAlone_43 : decode prog_1_method_42_code 43 = .ok (.istore 4, 2) := by decide +kernel
theorem eW_minutesAlone_45 : decode prog_1_method_42_code 45 = .ok (.iinc 5 1, 3) := by decide +kernel
theorem eW_minutesAlone_48 : decode prog_1_method_42_code 48 = .ok (.goto (-42), 3) := by decide +kernel
theorem eW_minutesAlone_51 : decode prog_1_method_42_code 51 = .ok (.iload 4, 2) := by decide +kernel
theorem eW_minutesAlone_53 : decode prog_1_method_42_code 53 = .ok (.ireturn, 1) := by decide +kernel
theorem eW_cover_0 : decode prog_1_method_20_code 0 = .ok (.iload_n 1, 1) := by decide +kernel
theorem eW_cover_1 : decode prog_1_method_20_code 1 = .ok (.invokestatic 63, 3) := by decide +kernel
theorem eW_cover_4 : decode prog_1_method_20_code 4 = .ok (.ifCond .eq 13, 3) := by decide +kernel
theorem eW_cover_7 : decode prog_1_method_20_code 7 = .ok (.iload_n 2, 1) := by decide +kernel
theorem eW_cover_8 : decode prog_1_method_20_code 8 = .ok (.iconst 1, 1) := by decide +kernel
theorem eW_cover_9 : decode prog_1_method_20_code 9 = .ok (.bipush 60, 2) := by decide +kernel
theorem eW_cover_11 : decode prog_1_method_20_code 11 = .ok (.invokestatic 82, 3) := by decide +kernel
theorem eW_cover_14 : decode prog_1_method_20_code 14 = .ok (.ifCond .ne 10, 3) := by decide +kernel
theorem eW_cover_17 : decode prog_1_method_20_code 17 = .ok (.aload_n 0, 1) := by decide +kernel
theorem eW_cover_18 : decode prog_1_method_20_code 18 = .ok (.ldc 51, 2) := by decide +kernel
theorem eW_cover_20 : decode prog_1_method_20_code 20 = .ok (.invokevirtual 52, 3) := by decide +kernel
theorem eW_cover_23 : decode prog_1_method_20_code 23 = .ok (.ireturn, 1) := by decide +kernel
theorem eW_cover_24 : decode prog_1_method_20_code 24 = .ok (.aload_n 0, 1) := by decide +kernel
theorem eW_cover_25 : decode prog_1_method_20_code 25 = .ok (.iload_n 2, 1) := by decide +kernel
theorem eW_cover_26 : decode prog_1_method_20_code 26 = .ok (.invokevirtual 158, 3) := by decide +kernel
theorem eW_cover_29 : decode prog_1_method_20_code 29 = .ok (.aload_n 0, 1) := by decide +kernel
theorem eW_cover_30 : decode prog_1_method_20_code 30 = .ok (.getfield 10, 3) := by decide +kernel
theorem eW_cover_33 : decode prog_1_method_20_code 33 = .ok (.iload_n 1, 1) := by decide +kernel
theorem eW_cover_34 : decode prog_1_method_20_code 34 = .ok (.invokevirtual 119, 3) := by decide +kernel
theorem eW_cover_37 : decode prog_1_method_20_code 37 = .ok (.istore_n 3, 1) := by decide +kernel
theorem eW_cover_38 : decode prog_1_method_20_code 38 = .ok (.aload_n 0, 1) := by decide +kernel
theorem eW_cover_39 : decode prog_1_method_20_code 39 = .ok (.iload_n 3, 1) := by decide +kernel
theorem eW_cover_40 : decode prog_1_method_20_code 40 = .ok (.iload_n 2, 1) := by decide +kernel
theorem eW_cover_41 : decode prog_1_method_20_code 41 = .ok (.invokevirtual 174, 3) := by decide +kernel
theorem eW_cover_44 : decode prog_1_method_20_code 44 = .ok (.ifCond .ne 10, 3) := by decide +kernel
theorem eW_cover_47 : decode prog_1_method_20_code 47 = .ok (.aload_n 0, 1) := by decide +kernel
theorem eW_cover_48 : decode prog_1_method_20_code 48 = .ok (.ldc 118, 2) := by decide +kernel
theorem eW_cover_50 : decode prog_1_method_20_code 50 = .ok (.invokevirtual 52, 3) := by decide +kernel
theorem eW_cover_53 : decode prog_1_method_20_code 53 = .ok (.ireturn, 1) := by decide +kernel
theorem eW_cover_54 : decode prog_1_method_20_code 54 = .ok (.iload_n 3, 1) := by decide +kernel
theorem eW_cover_55 : decode prog_1_method_20_code 55 = .ok (.istore 4, 2) := by decide +kernel
theorem eW_cover_57 : decode prog_1_method_20_code 57 = .ok (.iconst 0, 1) := by decide +kernel
theorem eW_cover_58 : decode prog_1_method_20_code 58 = .ok (.istore 5, 2) := by decide +kernel
theorem eW_cover_60 : decode prog_1_method_20_code 60 = .ok (.iload 5, 2) := by decide +kernel
theorem eW_cover_62 : decode prog_1_method_20_code 62 = .ok (.iload_n 3, 1) := by decide +kernel
theorem eW_cover_63 : decode prog_1_method_20_code 63 = .ok (.if_icmp .ge 57, 3) := by decide +kernel
theorem eW_cover_66 : decode prog_1_method_20_code 66 = .ok (.iload 5, 2) := by decide +kernel
theorem eW_cover_68 : decode prog_1_method_20_code 68 = .ok (.iload_n 3, 1) := by decide +kernel
theorem eW_cover_69 : decode prog_1_method_20_code 69 = .ok (.iconst (-1), 1) := by decide +kernel
theorem eW_cover_70 : decode prog_1_method_20_code 70 = .ok (.ixor, 1) := by decide +kernel
theorem eW_cover_71 : decode prog_1_method_20_code 71 = .ok (.iand, 1) := by decide +kernel
theorem eW_cover_72 : decode prog_1_method_20_code 72 = .ok (.ifCond .ne 7, 3) := by decide +kernel
theorem eW_cover_75 : decode prog_1_method_20_code 75 = .ok (.iconst 1, 1) := by decide +kernel
theorem eW_cover_76 : decode prog_1_method_20_code 76 = .ok (.goto 4, 3) := by decide +kernel
theorem eW_cover_79 : decode prog_1_method_20_code 79 = .ok (.iconst 0, 1) := by decide +kernel
theorem eW_cover_80 : decode prog_1_method_20_code 80 = .ok (.istore 6, 2) := by decide +kernel
theorem eW_cover_82 : decode prog_1_method_20_code 82 = .ok (.iload 6, 2) := by decide +kernel
theorem eW_cover_84 : decode prog_1_method_20_code 84 = .ok (.ifCond .eq 30, 3) := by decide +kernel
theorem eW_cover_87 : decode prog_1_method_20_code 87 = .ok (.iload 5, 2) := by decide +kernel
theorem eW_cover_89 : decode prog_1_method_20_code 89 = .ok (.invokestatic 134, 3) := by decide +kernel
theorem eW_cover_92 : decode prog_1_method_20_code 92 = .ok (.iload 4, 2) := by decide +kernel
theorem eW_cover_94 : decode prog_1_method_20_code 94 = .ok (.invokestatic 134, 3) := by decide +kernel
theorem eW_cover_97 : decode prog_1_method_20_code 97 = .ok (.if_icmp .ge 17, 3) := by decide +kernel
theorem eW_cover_100 : decode prog_1_method_20_code 100 = .ok (.aload_n 0, 1) := by decide +kernel
theorem eW_cover_101 : decode prog_1_method_20_code 101 = .ok (.iload 5, 2) := by decide +kernel
theorem eW_cover_103 : decode prog_1_method_20_code 103 = .ok (.iload_n 2, 1) := by decide +kernel
theorem eW_cover_104 : decode prog_1_method_20_code 104 = .ok (.invokevirtual 174, 3) := by decide +kernel
theorem eW_cover_107 : decode prog_1_method_20_code 107 = .ok (.ifCond .eq 7, 3) := by decide +kernel
theorem eW_cover_110 : decode prog_1_method_20_code 110 = .ok (.iload 5, 2) := by decide +kernel
theorem eW_cover_112 : decode prog_1_method_20_code 112 = .ok (.istore 4, 2) := by decide +kernel
theorem eW_cover_114 : decode prog_1_method_20_code 114 = .ok (.iinc 5 1, 3) := by decide +kernel
theorem eW_cover_117 : decode prog_1_method_20_code 117 = .ok (.goto (-57), 3) := by decide +kernel
theorem eW_cover_120 : decode prog_1_method_20_code 120 = .ok (.iload 4, 2) := by decide +kernel
theorem eW_cover_122 : decode prog_1_method_20_code 122 = .ok (.ireturn, 1) := by decide +kernel
theorem eW_hearsAlways_0 : decode prog_1_method_43_code 0 = .ok (.iconst 0, 1) := by decide +kernel
theorem eW_hearsAlways_1 : decode prog_1_method_43_code 1 = .ok (.istore_n 3, 1) := by decide +kernel
theorem eW_hearsAlways_2 : decode prog_1_method_43_code 2 = .ok (.iload_n 3, 1) := by decide +kernel
theorem eW_hearsAlways_3 : decode prog_1_method_43_code 3 = .ok (.iload_n 2, 1) := by decide +kernel
theorem eW_hearsAlways_4 : decode prog_1_method_43_code 4 = .ok (.if_icmp .ge 31, 3) := by decide +kernel
theorem eW_hearsAlways_7 : decode prog_1_method_43_code 7 = .ok (.iload_n 3, 1) := by decide +kernel
theorem eW_hearsAlways_8 : decode prog_1_method_43_code 8 = .ok (.aload_n 0, 1) := by decide +kernel
theorem eW_hearsAlways_9 : decode prog_1_method_43_code 9 = .ok (.getfield 43, 3) := by decide +kernel
theorem eW_hearsAlways_12 : decode prog_1_method_43_code 12 = .ok (.arraylength, 1) := by decide +kernel
theorem eW_hearsAlways_13 : decode prog_1_method_43_code 13 = .ok (.if_icmp .ge 22, 3) := by decide +kernel
theorem eW_hearsAlways_16 : decode prog_1_method_43_code 16 = .ok (.aload_n 0, 1) := by decide +kernel
theorem eW_hearsAlways_17 : decode prog_1_method_43_code 17 = .ok (.getfield 43, 3) := by decide +kernel
theorem eW_hearsAlways_20 : decode prog_1_method_43_code 20 = .ok (.iload_n 3, 1) := by decide +kernel
theorem eW_hearsAlways_21 : decode prog_1_method_43_code 21 = .ok (.iaload, 1) := by decide +kernel
theorem eW_hearsAlways_22 : decode prog_1_method_43_code 22 = .ok (.iload_n 1, 1) := by decide +kernel
theorem eW_hearsAlways_23 : decode prog_1_method_43_code 23 = .ok (.iand, 1) := by decide +kernel
theorem eW_hearsAlways_24 : decode prog_1_method_43_code 24 = .ok (.ifCond .ne 5, 3) := by decide +kernel
theorem eW_hearsAlways_27 : decode prog_1_method_43_code 27 = .ok (.iconst 0, 1) := by decide +kernel
theorem eW_hearsAlways_28 : decode prog_1_method_43_code 28 = .ok (.ireturn, 1) := by decide +kernel
theorem eW_hearsAlways_29 : decode prog_1_method_43_code 29 = .ok (.iinc 3 1, 3) := by decide +kernel
theorem eW_hearsAlways_32 : decode prog_1_method_43_code 32 = .ok (.goto (-30), 3) := by decide +kernel
theorem eW_hearsAlways_35 : decode prog_1_method_43_code 35 = .ok (.iconst 1, 1) := by decide +kernel
theorem eW_hearsAlways_36 : decode prog_1_method_43_code 36 = .ok (.ireturn, 1) := by decide +kernel
theorem eW_shift_0 : decode prog_1_method_21_code 0 = .ok (.iload_n 1, 1) := by decide +kernel
theorem eW_shift_1 : decode prog_1_method_21_code 1 = .ok (.invokestatic 63, 3) := by decide +kernel
theorem eW_shift_4 : decode prog_1_method_21_code 4 = .ok (.ifCond .eq 13, 3) := by decide +kernel
theorem eW_shift_7 : decode prog_1_method_21_code 7 = .ok (.iload_n 2, 1) := by decide +kernel
theorem eW_shift_8 : decode prog_1_method_21_code 8 = .ok (.iconst 1, 1) := by decide +kernel
theorem eW_shift_9 : decode prog_1_method_21_code 9 = .ok (.bipush 60, 2) := by decide +kernel
theorem eW_shift_11 : decode prog_1_method_21_code 11 = .ok (.invokestatic 82, 3) := by decide +kernel
theorem eW_shift_14 : decode prog_1_method_21_code 14 = .ok (.ifCond .ne 10, 3) := by decide +kernel
theorem eW_shift_17 : decode prog_1_method_21_code 17 = .ok (.aload_n 0, 1) := by decide +kernel
theorem eW_shift_18 : decode prog_1_method_21_code 18 = .ok (.ldc 51, 2) := by decide +kernel
theorem eW_shift_20 : decode prog_1_method_21_code 20 = .ok (.invokevirtual 52, 3) := by decide +kernel
theorem eW_shift_23 : decode prog_1_method_21_code 23 = .ok (.ireturn, 1) := by decide +kernel
theorem eW_shift_24 : decode prog_1_method_21_code 24 = .ok (.aload_n 0, 1) := by decide +kernel
theorem eW_shift_25 : decode prog_1_method_21_code 25 = .ok (.getfield 10, 3) := by decide +kernel
theorem eW_shift_28 : decode prog_1_method_21_code 28 = .ok (.iload_n 1, 1) := by decide +kernel
theorem eW_shift_29 : decode prog_1_method_21_code 29 = .ok (.invokevirtual 119, 3) := by decide +kernel
theorem eW_shift_32 : decode prog_1_method_21_code 32 = .ok (.istore_n 3, 1) := by decide +kernel
theorem eW_shift_33 : decode prog_1_method_21_code 33 = .ok (.iload_n 2, 1) := by decide +kernel
theorem eW_shift_34 : decode prog_1_method_21_code 34 = .ok (.iconst 1, 1) := by decide +kernel
theorem eW_shift_35 : decode prog_1_method_21_code 35 = .ok (.iadd, 1) := by decide +kernel
theorem eW_shift_36 : decode prog_1_method_21_code 36 = .ok (.istore 4, 2) := by decide +kernel
theorem eW_shift_38 : decode prog_1_method_21_code 38 = .ok (.iconst 1, 1) := by decide +kernel
theorem eW_shift_39 : decode prog_1_method_21_code 39 = .ok (.istore 5, 2) := by decide +kernel
theorem eW_shift_41 : decode prog_1_method_21_code 41 = .ok (.getstatic 177, 3) := by decide +kernel
theorem eW_shift_44 : decode prog_1_method_21_code 44 = .ok (.iconst 0, 1) := by decide +kernel
theorem eW_shift_45 : decode prog_1_method_21_code 45 = .ok (.iaload, 1) := by decide +kernel
theorem eW_shift_46 : decode prog_1_method_21_code 46 = .ok (.istore 6, 2) := by decide +kernel
theorem eW_shift_48 : decode prog_1_method_21_code 48 = .ok (.iload 6, 2) := by decide +kernel
theorem eW_shift_50 : decode prog_1_method_21_code 50 = .ok (.getstatic 180, 3) := by decide +kernel
theorem eW_shift_53 : decode prog_1_method_21_code 53 = .ok (.iconst 0, 1) := by decide +kernel
theorem eW_shift_54 : decode prog_1_method_21_code 54 = .ok (.iaload, 1) := by decide +kernel
theorem eW_shift_55 : decode prog_1_method_21_code 55 = .ok (.if_icmp .gt 37, 3) := by decide +kernel
theorem eW_shift_58 : decode prog_1_method_21_code 58 = .ok (.aload_n 0, 1) := by decide +kernel
theorem eW_shift_59 : decode prog_1_method_21_code 59 = .ok (.getfield 10, 3) := by decide +kernel
theorem eW_shift_62 : decode prog_1_method_21_code 62 = .ok (.iload_n 3, 1) := by decide +kernel
theorem eW_shift_63 : decode prog_1_method_21_code 63 = .ok (.iload_n 2, 1) := by decide +kernel
theorem eW_shift_64 : decode prog_1_method_21_code 64 = .ok (.iload 6, 2) := by decide +kernel
theorem eW_shift_66 : decode prog_1_method_21_code 66 = .ok (.invokevirtual 165, 3) := by decide +kernel
theorem eW_shift_69 : decode prog_1_method_21_code 69 = .ok (.istore 7, 2) := by decide +kernel
theorem eW_shift_71 : decode prog_1_method_21_code 71 = .ok (.iload 7, 2) := by decide +kernel
theorem eW_shift_73 : decode prog_1_method_21_code 73 = .ok (.iload 4, 2) := by decide +kernel
theorem eW_shift_75 : decode prog_1_method_21_code 75 = .ok (.if_icmp .ge 11, 3) := by decide +kernel
theorem eW_shift_78 : decode prog_1_method_21_code 78 = .ok (.iload 7, 2) := by decide +kernel
theorem eW_shift_80 : decode prog_1_method_21_code 80 = .ok (.istore 4, 2) := by decide +kernel
theorem eW_shift_82 : decode prog_1_method_21_code 82 = .ok (.iload 6, 2) := by decide +kernel
theorem eW_shift_84 : decode prog_1_method_21_code 84 = .ok (.istore 5, 2) := by decide +kernel
theorem eW_shift_86 : decode prog_1_method_21_code 86 = .ok (.iinc 6 1, 3) := by decide +kernel
theorem eW_shift_89 : decode prog_1_method_21_code 89 = .ok (.goto (-41), 3) := by decide +kernel
theorem eW_shift_92 : decode prog_1_method_21_code 92 = .ok (.iload 5, 2) := by decide +kernel
theorem eW_shift_94 : decode prog_1_method_21_code 94 = .ok (.ireturn, 1) := by decide +kernel
theorem eW_side_0 : decode prog_1_method_22_code 0 = .ok (.aload_n 0, 1) := by decide +kernel
theorem eW_side_1 : decode prog_1_method_22_code 1 = .ok (.iload_n 1, 1) := by decide +kernel
theorem eW_side_2 : decode prog_1_method_22_code 2 = .ok (.invokevirtual 75, 3) := by decide +kernel
theorem eW_side_5 : decode prog_1_method_22_code 5 = .ok (.ifCond .eq 21, 3) := by decide +kernel
theorem eW_side_8 : decode prog_1_method_22_code 8 = .ok (.iload_n 2, 1) := by decide +kernel
theorem eW_side_9 : decode prog_1_method_22_code 9 = .ok (.invokestatic 63, 3) := by decide +kernel
theorem eW_side_12 : decode prog_1_method_22_code 12 = .ok (.ifCond .eq 14, 3) := by decide +kernel
theorem eW_side_15 : decode prog_1_method_22_code 15 = .ok (.iload_n 3, 1) := by decide +kernel
theorem eW_side_16 : decode prog_1_method_22_code 16 = .ok (.iconst 1, 1) := by decide +kernel
theorem eW_side_17 : decode prog_1_method_22_code 17 = .ok (.sipush 240, 3) := by decide +kernel
theorem eW_side_20 : decode prog_1_method_22_code 20 = .ok (.invokestatic 82, 3) := by decide +kernel
theorem eW_side_23 : decode prog_1_method_22_code 23 = .ok (.ifCond .ne 10, 3) := by decide +kernel
theorem eW_side_26 : decode prog_1_method_22_code 26 = .ok (.aload_n 0, 1) := by decide +kernel
theorem eW_side_27 : decode prog_1_method_22_code 27 = .ok (.ldc 51, 2) := by decide +kernel
theorem eW_side_29 : decode prog_1_method_22_code 29 = .ok (.invokevirtual 52, 3) := by decide +kernel
theorem eW_side_32 : decode prog_1_method_22_code 32 = .ok (.ireturn, 1) := by decide +kernel
theorem eW_side_33 : decode prog_1_method_22_code 33 = .ok (.aload_n 0, 1) := by decide +kernel
theorem eW_side_34 : decode prog_1_method_22_code 34 = .ok (.getfield 10, 3) := by decide +kernel
theorem eW_side_37 : decode prog_1_method_22_code 37 = .ok (.iload_n 2, 1) := by decide +kernel
theorem eW_side_38 : decode prog_1_method_22_code 38 = .ok (.invokevirtual 119, 3) := by decide +kernel
theorem eW_side_41 : decode prog_1_method_22_code 41 = .ok (.istore 4, 2) := by decide +kernel
theorem eW_side_43 : decode prog_1_method_22_code 43 = .ok (.iload_n 3, 1) := by decide +kernel
theorem eW_side_44 : decode prog_1_method_22_code 44 = .ok (.iconst 1, 1) := by decide +kernel
theorem eW_side_45 : decode prog_1_method_22_code 45 = .ok (.iadd, 1) := by decide +kernel
theorem eW_side_46 : decode prog_1_method_22_code 46 = .ok (.istore 5, 2) := by decide +kernel
theorem eW_side_48 : decode prog_1_method_22_code 48 = .ok (.iconst 0, 1) := by decide +kernel
theorem eW_side_49 : decode prog_1_method_22_code 49 = .ok (.istore 6, 2) := by decide +kernel
theorem eW_side_51 : decode prog_1_method_22_code 51 = .ok (.aload_n 0, 1) := by decide +kernel
theorem eW_side_52 : decode prog_1_method_22_code 52 = .ok (.getfield 23, 3) := by decide +kernel
theorem eW_side_55 : decode prog_1_method_22_code 55 = .ok (.aload_n 0, 1) := by decide +kernel
theorem eW_side_56 : decode prog_1_method_22_code 56 = .ok (.getfield 10, 3) := by decide +kernel
theorem eW_side_59 : decode prog_1_method_22_code 59 = .ok (.invokevirtual 183, 3) := by decide +kernel
theorem eW_side_62 : decode prog_1_method_22_code 62 = .ok (.iconst 0, 1) := by decide +kernel
theorem eW_side_63 : decode prog_1_method_22_code 63 = .ok (.istore 7, 2) := by decide +kernel
theorem eW_side_65 : decode prog_1_method_22_code 65 = .ok (.iload 7, 2) := by decide +kernel
theorem eW_side_67 : decode prog_1_method_22_code 67 = .ok (.iconst 4, 1) := by decide +kernel
theorem eW_side_68 : decode prog_1_method_22_code 68 = .ok (.if_icmp .ge 57, 3) := by decide +kernel
theorem eW_side_71 : decode prog_1_method_22_code 71 = .ok (.aload_n 0, 1) := by decide +kernel
theorem eW_side_72 : decode prog_1_method_22_code 72 = .ok (.getfield 23, 3) := by decide +kernel
theorem eW_side_75 : decode prog_1_method_22_code 75 = .ok (.iload_n 1, 1) := by decide +kernel
theorem eW_side_76 : decode prog_1_method_22_code 76 = .ok (.iconst 3, 1) := by decide +kernel
theorem eW_side_77 : decode prog_1_method_22_code 77 = .ok (.iload 7, 2) := by decide +kernel
theorem eW_side_79 : decode prog_1_method_22_code 79 = .ok (.invokevirtual 103, 3) := by decide +kernel
theorem eW_side_82 : decode prog_1_method_22_code 82 = .ok (.pop, 1) := by decide +kernel
theorem eW_side_83 : decode prog_1_method_22_code 83 = .ok (.aload_n 0, 1) := by decide +kernel
theorem eW_side_84 : decode prog_1_method_22_code 84 = .ok (.getfield 23, 3) := by decide +kernel
theorem eW_side_87 : decode prog_1_method_22_code 87 = .ok (.iload 4, 2) := by decide +kernel
theorem eW_side_89 : decode prog_1_method_22_code 89 = .ok (.iload_n 3, 1) := by decide +kernel
theorem eW_side_90 : decode prog_1_method_22_code 90 = .ok (.aload_n 0, 1) := by decide +kernel
theorem eW_side_91 : decode prog_1_method_22_code 91 = .ok (.getfield 23, 3) := by decide +kernel
theorem eW_side_94 : decode prog_1_method_22_code 94 = .ok (.getfield 56, 3) := by decide +kernel
theorem eW_side_97 : decode prog_1_method_22_code 97 = .ok (.iconst 0, 1) := by decide +kernel
theorem eW_side_98 : decode prog_1_method_22_code 98 = .ok (.iaload, 1) := by decide +kernel
theorem eW_side_99 : decode prog_1_method_22_code 99 = .ok (.invokevirtual 165, 3) := by decide +kernel
theorem eW_side_102 : decode prog_1_method_22_code 102 = .ok (.istore 8, 2) := by decide +kernel
theorem eW_side_104 : decode prog_1_method_22_code 104 = .ok (.iload 8, 2) := by decide +kernel
theorem eW_side_106 : decode prog_1_method_22_code 106 = .ok (.iload 5, 2) := by decide +kernel
theorem eW_side_108 : decode prog_1_method_22_code 108 = .ok (.if_icmp .ge 11, 3) := by decide +kernel
theorem eW_side_111 : decode prog_1_method_22_code 111 = .ok (.iload 8, 2) := by decide +kernel
theorem eW_side_113 : decode prog_1_method_22_code 113 = .ok (.istore 5, 2) := by decide +kernel
theorem eW_side_115 : decode prog_1_method_22_code 115 = .ok (.iload 7, 2) := by decide +kernel
theorem eW_side_117 : decode prog_1_method_22_code 117 = .ok (.istore 6, 2) := by decide +kernel
theorem eW_side_119 : decode prog_1_method_22_code 119 = .ok (.iinc 7 1, 3) := by decide +kernel
theorem eW_side_122 : decode prog_1_method_22_code 122 = .ok (.goto (-57), 3) := by decide +kernel
theorem eW_side_125 : decode prog_1_method_22_code 125 = .ok (.iload 6, 2) := by decide +kernel
theorem eW_side_127 : decode prog_1_method_22_code 127 = .ok (.ireturn, 1) := by decide +kernel
theorem eP_become_0 : decode prog_2_method_2_code 0 = .ok (.aload_n 0, 1) := by decide +kernel
theorem eP_become_1 : decode prog_2_method_2_code 1 = .ok (.aload_n 1, 1) := by decide +kernel
theorem eP_become_2 : decode prog_2_method_2_code 2 = .ok (.getfield 9, 3) := by decide +kernel
theorem eP_become_5 : decode prog_2_method_2_code 5 = .ok (.putfield 9, 3) := by decide +kernel
theorem eP_become_8 : decode prog_2_method_2_code 8 = .ok (.aload_n 1, 1) := by decide +kernel
theorem eP_become_9 : decode prog_2_method_2_code 9 = .ok (.getfield 15, 3) := by decide +kernel
theorem eP_become_12 : decode prog_2_method_2_code 12 = .ok (.iconst 0, 1) := by decide +kernel
theorem eP_become_13 : decode prog_2_method_2_code 13 = .ok (.aload_n 0, 1) := by decide +kernel
theorem eP_become_14 : decode prog_2_method_2_code 14 = .ok (.getfield 15, 3) := by decide +kernel
theorem eP_become_17 : decode prog_2_method_2_code 17 = .ok (.iconst 0, 1) := by decide +kernel
theorem eP_become_18 : decode prog_2_method_2_code 18 = .ok (.iconst 4, 1) := by decide +kernel
theorem eP_become_19 : decode prog_2_method_2_code 19 = .ok (.invokestatic 30, 3) := by decide +kernel
theorem eP_become_22 : decode prog_2_method_2_code 22 = .ok (.aload_n 0, 1) := by decide +kernel
theorem eP_become_23 : decode prog_2_method_2_code 23 = .ok (.aload_n 1, 1) := by decide +kernel
theorem eP_become_24 : decode prog_2_method_2_code 24 = .ok (.getfield 19, 3) := by decide +kernel
theorem eP_become_27 : decode prog_2_method_2_code 27 = .ok (.putfield 19, 3) := by decide +kernel
theorem eP_become_30 : decode prog_2_method_2_code 30 = .ok (.iconst 0, 1) := by decide +kernel
theorem eP_become_31 : decode prog_2_method_2_code 31 = .ok (.istore_n 2, 1) := by decide +kernel
theorem eP_become_32 : decode prog_2_method_2_code 32 = .ok (.iload_n 2, 1) := by decide +kernel
theorem eP_become_33 : decode prog_2_method_2_code 33 = .ok (.aload_n 0, 1) := by decide +kernel
theorem eP_become_34 : decode prog_2_method_2_code 34 = .ok (.getfield 19, 3) := by decide +kernel
theorem eP_become_37 : decode prog_2_method_2_code 37 = .ok (.if_icmp .ge 28, 3) := by decide +kernel
theorem eP_become_40 : decode prog_2_method_2_code 40 = .ok (.aload_n 1, 1) := by decide +kernel
theorem eP_become_41 : decode prog_2_method_2_code 41 = .ok (.getfield 24, 3) := by decide +kernel
theorem eP_become_44 : decode prog_2_method_2_code 44 = .ok (.iload_n 2, 1) := by decide +kernel
theorem eP_become_45 : decode prog_2_method_2_code 45 = .ok (.aaload, 1) := by decide +kernel
theorem eP_become_46 : decode prog_2_method_2_code 46 = .ok (.iconst 0, 1) := by decide +kernel
theorem eP_become_47 : decode prog_2_method_2_code 47 = .ok (.aload_n 0, 1) := by decide +kernel
theorem eP_become_48 : decode prog_2_method_2_code 48 = .ok (.getfield 24, 3) := by decide +kernel
theorem eP_become_51 : decode prog_2_method_2_code 51 = .ok (.iload_n 2, 1) := by decide +kernel
theorem eP_become_52 : decode prog_2_method_2_code 52 = .ok (.aaload, 1) := by decide +kernel
theorem eP_become_53 : decode prog_2_method_2_code 53 = .ok (.iconst 0, 1) := by decide +kernel
theorem eP_become_54 : decode prog_2_method_2_code 54 = .ok (.bipush 6, 2) := by decide +kernel
theorem eP_become_56 : decode prog_2_method_2_code 56 = .ok (.invokestatic 30, 3) := by decide +kernel
theorem eP_become_59 : decode prog_2_method_2_code 59 = .ok (.iinc 2 1, 3) := by decide +kernel
theorem eP_become_62 : decode prog_2_method_2_code 62 = .ok (.goto (-30), 3) := by decide +kernel
theorem eP_become_65 : decode prog_2_method_2_code 65 = .ok (.return_, 1) := by decide +kernel
theorem eW_lost_0 : decode prog_1_method_23_code 0 = .ok (.iload_n 1, 1) := by decide +kernel
theorem eW_lost_1 : decode prog_1_method_23_code 1 = .ok (.invokestatic 63, 3) := by decide +kernel
theorem eW_lost_4 : decode prog_1_method_23_code 4 = .ok (.ifCond .eq 10, 3) := by decide +kernel
theorem eW_lost_7 : decode prog_1_method_23_code 7 = .ok (.iload_n 2, 1) := by decide +kernel
theorem eW_lost_8 : decode prog_1_method_23_code 8 = .ok (.invokestatic 131, 3) := by decide +kernel
theorem eW_lost_11 : decode prog_1_method_23_code 11 = .ok (.ifCond .ne 10, 3) := by decide +kernel
theorem eW_lost_14 : decode prog_1_method_23_code 14 = .ok (.aload_n 0, 1) := by decide +kernel
theorem eW_lost_15 : decode prog_1_method_23_code 15 = .ok (.ldc 51, 2) := by decide +kernel
theorem eW_lost_17 : decode prog_1_method_23_code 17 = .ok (.invokevirtual 52, 3) := by decide +kernel
theorem eW_lost_20 : decode prog_1_method_23_code 20 = .ok (.ireturn, 1) := by decide +kernel
theorem eW_lost_21 : decode prog_1_method_23_code 21 = .ok (.aload_n 0, 1) := by decide +kernel
theorem eW_lost_22 : decode prog_1_method_23_code 22 = .ok (.getfield 23, 3) := by decide +kernel
theorem eW_lost_25 : decode prog_1_method_23_code 25 = .ok (.aload_n 0, 1) := by decide +kernel
theorem eW_lost_26 : decode prog_1_method_23_code 26 = .ok (.getfield 10, 3) := by decide +kernel
theorem eW_lost_29 : decode prog_1_method_23_code 29 = .ok (.invokevirtual 183, 3) := by decide +kernel
theorem eW_lost_32 : decode prog_1_method_23_code 32 = .ok (.aload_n 0, 1) := by decide +kernel
theorem eW_lost_33 : decode prog_1_method_23_code 33 = .ok (.getfield 23, 3) := by decide +kernel
theorem eW_lost_36 : decode prog_1_method_23_code 36 = .ok (.iload_n 1, 1) := by decide +kernel
theorem eW_lost_37 : decode prog_1_method_23_code 37 = .ok (.iload_n 2, 1) := by decide +kernel
theorem eW_lost_38 : decode prog_1_method_23_code 38 = .ok (.invokevirtual 139, 3) := by decide +kernel
theorem eW_lost_41 : decode prog_1_method_23_code 41 = .ok (.pop, 1) := by decide +kernel
theorem eW_lost_42 : decode prog_1_method_23_code 42 = .ok (.aload_n 0, 1) := by decide +kernel
theorem eW_lost_43 : decode prog_1_method_23_code 43 = .ok (.getfield 23, 3) := by decide +kernel
theorem eW_lost_46 : decode prog_1_method_23_code 46 = .ok (.getfield 187, 3) := by decide +kernel
theorem eW_lost_49 : decode prog_1_method_23_code 49 = .ok (.ireturn, 1) := by decide +kernel
theorem eW_best_0 : decode prog_1_method_24_code 0 = .ok (.iload_n 1, 1) := by decide +kernel
theorem eW_best_1 : decode prog_1_method_24_code 1 = .ok (.invokestatic 131, 3) := by decide +kernel
theorem eW_best_4 : decode prog_1_method_24_code 4 = .ok (.ifCond .ne 10, 3) := by decide +kernel
theorem eW_best_7 : decode prog_1_method_24_code 7 = .ok (.aload_n 0, 1) := by decide +kernel
theorem eW_best_8 : decode prog_1_method_24_code 8 = .ok (.ldc 51, 2) := by decide +kernel
theorem eW_best_10 : decode prog_1_method_24_code 10 = .ok (.invokevirtual 52, 3) := by decide +kernel
theorem eW_best_13 : decode prog_1_method_24_code 13 = .ok (.ireturn, 1) := by decide +kernel
theorem eW_best_14 : decode prog_1_method_24_code 14 = .ok (.sipush 161, 3) := by decide +kernel
theorem eW_best_17 : decode prog_1_method_24_code 17 = .ok (.istore_n 2, 1) := by decide +kernel
theorem eW_best_18 : decode prog_1_method_24_code 18 = .ok (.iconst 0, 1) := by decide +kernel
theorem eW_best_19 : decode prog_1_method_24_code 19 = .ok (.istore_n 3, 1) := by decide +kernel
theorem eW_best_20 : decode prog_1_method_24_code 20 = .ok (.iconst 0, 1) := by decide +kernel
theorem eW_best_21 : decode prog_1_method_24_code 21 = .ok (.istore 4, 2) := by decide +kernel
theorem eW_best_23 : decode prog_1_method_24_code 23 = .ok (.iload 4, 2) := by decide +kernel
theorem eW_best_25 : decode prog_1_method_24_code 25 = .ok (.bipush 10, 2) := by decide +kernel
theorem eW_best_27 : decode prog_1_method_24_code 27 = .ok (.if_icmp .ge 44, 3) := by decide +kernel
theorem eW_best_30 : decode prog_1_method_24_code 30 = .ok (.aload_n 0, 1) := by decide +kernel
theorem eW_best_31 : decode prog_1_method_24_code 31 = .ok (.getfield 23, 3) := by decide +kernel
theorem eW_best_34 : decode prog_1_method_24_code 34 = .ok (.aload_n 0, 1) := by decide +kernel
theorem eW_best_35 : decode prog_1_method_24_code 35 = .ok (.getfield 10, 3) := by decide +kernel
theorem eW_best_38 : decode prog_1_method_24_code 38 = .ok (.invokevirtual 183, 3) := by decide +kernel
theorem eW_best_41 : decode prog_1_method_24_code 41 = .ok (.aload_n 0, 1) := by decide +kernel
theorem eW_best_42 : decode prog_1_method_24_code 42 = .ok (.getfield 23, 3) := by decide +kernel
theorem eW_best_45 : decode prog_1_method_24_code 45 = .ok (.iload 4, 2) := by decide +kernel
theorem eW_best_47 : decode prog_1_method_24_code 47 = .ok (.iload_n 1, 1) := by decide +kernel
theorem eW_best_48 : decode prog_1_method_24_code 48 = .ok (.invokevirtual 139, 3) := by decide +kernel
theorem eW_best_51 : decode prog_1_method_24_code 51 = .ok (.istore 5, 2) := by decide +kernel
theorem eW_best_53 : decode prog_1_method_24_code 53 = .ok (.iload 5, 2) := by decide +kernel
theorem eW_best_55 : decode prog_1_method_24_code 55 = .ok (.iload_n 2, 1) := by decide +kernel
theorem eW_best_56 : decode prog_1_method_24_code 56 = .ok (.if_icmp .ge 9, 3) := by decide +kernel
theorem eW_best_59 : decode prog_1_method_24_code 59 = .ok (.iload 5, 2) := by decide +kernel
theorem eW_best_61 : decode prog_1_method_24_code 61 = .ok (.istore_n 2, 1) := by decide +kernel
theorem eW_best_62 : decode prog_1_method_24_code 62 = .ok (.iload 4, 2) := by decide +kernel
theorem eW_best_64 : decode prog_1_method_24_code 64 = .ok (.istore_n 3, 1) := by decide +kernel
theorem eW_best_65 : decode prog_1_method_24_code 65 = .ok (.iinc 4 1, 3) := by decide +kernel
theorem eW_best_68 : decode prog_1_method_24_code 68 = .ok (.goto (-45), 3) := by decide +kernel
theorem eW_best_71 : decode prog_1_method_24_code 71 = .ok (.iload_n 3, 1) := by decide +kernel
theorem eW_best_72 : decode prog_1_method_24_code 72 = .ok (.ireturn, 1) := by decide +kernel
theorem eW_feed_0 : decode prog_1_method_25_code 0 = .ok (.iload_n 2, 1) := by decide +kernel
theorem eW_feed_1 : decode prog_1_method_25_code 1 = .ok (.iconst 1, 1) := by decide +kernel
theorem eW_feed_2 : decode prog_1_method_25_code 2 = .ok (.iconst 4, 1) := by decide +kernel
theorem eW_feed_3 : decode prog_1_method_25_code 3 = .ok (.invokestatic 82, 3) := by decide +kernel
theorem eW_feed_6 : decode prog_1_method_25_code 6 = .ok (.ifCond .ne 10, 3) := by decide +kernel
theorem eW_feed_9 : decode prog_1_method_25_code 9 = .ok (.aload_n 0, 1) := by decide +kernel
theorem eW_feed_10 : decode prog_1_method_25_code 10 = .ok (.ldc 51, 2) := by decide +kernel
theorem eW_feed_12 : decode prog_1_method_25_code 12 = .ok (.invokevirtual 52, 3) := by decide +kernel
theorem eW_feed_15 : decode prog_1_method_25_code 15 = .ok (.ireturn, 1) := by decide +kernel
theorem eW_feed_16 : decode prog_1_method_25_code 16 = .ok (.aload_n 0, 1) := by decide +kernel
theorem eW_feed_17 : decode prog_1_method_25_code 17 = .ok (.getfield 29, 3) := by decide +kernel
theorem eW_feed_20 : decode prog_1_method_25_code 20 = .ok (.getfield 190, 3) := by decide +kernel
theorem eW_feed_23 : decode prog_1_method_25_code 23 = .ok (.bipush 120, 2) := by decide +kernel
theorem eW_feed_25 : decode prog_1_method_25_code 25 = .ok (.iload_n 2, 1) := by decide +kernel
theorem eW_feed_26 : decode prog_1_method_25_code 26 = .ok (.isub, 1) := by decide +kernel
theorem eW_feed_27 : decode prog_1_method_25_code 27 = .ok (.if_icmp .le 10, 3) := by decide +kernel
theorem eW_feed_30 : decode prog_1_method_25_code 30 = .ok (.aload_n 0, 1) := by decide +kernel
theorem eW_feed_31 : decode prog_1_method_25_code 31 = .ok (.ldc 70, 2) := by decide +kernel
theorem eW_feed_33 : decode prog_1_method_25_code 33 = .ok (.invokevirtual 52, 3) := by decide +kernel
theorem eW_feed_36 : decode prog_1_method_25_code 36 = .ok (.ireturn, 1) := by decide +kernel
theorem eW_feed_37 : decode prog_1_method_25_code 37 = .ok (.iload_n 2, 1) := by decide +kernel
theorem eW_feed_38 : decode prog_1_method_25_code 38 = .ok (.iconst 1, 1) := by decide +kernel
theorem eW_feed_39 : decode prog_1_method_25_code 39 = .ok (.isub, 1) := by decide +kernel
theorem eW_feed_40 : decode prog_1_method_25_code 40 = .ok (.istore_n 3, 1) := by decide +kernel
theorem eW_feed_41 : decode prog_1_method_25_code 41 = .ok (.iload_n 3, 1) := by decide +kernel
theorem eW_feed_42 : decode prog_1_method_25_code 42 = .ok (.ifCond .lt 26, 3) := by decide +kernel
theorem eW_feed_45 : decode prog_1_method_25_code 45 = .ok (.aload_n 0, 1) := by decide +kernel
theorem eW_feed_46 : decode prog_1_method_25_code 46 = .ok (.getfield 29, 3) := by decide +kernel
theorem eW_feed_49 : decode prog_1_method_25_code 49 = .ok (.iload_n 1, 1) := by decide +kernel
theorem eW_feed_50 : decode prog_1_method_25_code 50 = .ok (.bipush 8, 2) := by decide +kernel
theorem eW_feed_52 : decode prog_1_method_25_code 52 = .ok (.iload_n 3, 1) := by decide +kernel
theorem eW_feed_53 : decode prog_1_method_25_code 53 = .ok (.imul, 1) := by decide +kernel
theorem eW_feed_54 : decode prog_1_method_25_code 54 = .ok (.ishr, 1) := by decide +kernel
theorem eW_feed_55 : decode prog_1_method_25_code 55 = .ok (.sipush 255, 3) := by decide +kernel
theorem eW_feed_58 : decode prog_1_method_25_code 58 = .ok (.iand, 1) := by decide +kernel
theorem eW_feed_59 : decode prog_1_method_25_code 59 = .ok (.invokevirtual 193, 3) := by decide +kernel
theorem eW_feed_62 : decode prog_1_method_25_code 62 = .ok (.iinc 3 (-1), 3) := by decide +kernel
theorem eW_feed_65 : decode prog_1_method_25_code 65 = .ok (.goto (-24), 3) := by decide +kernel
theorem eW_feed_68 : decode prog_1_method_25_code 68 = .ok (.aload_n 0, 1) := by decide +kernel
theorem eW_feed_69 : decode prog_1_method_25_code 69 = .ok (.getfield 29, 3) := by decide +kernel
theorem eW_feed_72 : decode prog_1_method_25_code 72 = .ok (.getfield 190, 3) := by decide +kernel
theorem eW_feed_75 : decode prog_1_method_25_code 75 = .ok (.ireturn, 1) := by decide +kernel
theorem eT_append_0 : decode prog_4_method_2_code 0 = .ok (.aload_n 0, 1) := by decide +kernel
theorem eT_append_1 : decode prog_4_method_2_code 1 = .ok (.getfield 15, 3) := by decide +kernel
theorem eT_append_4 : decode prog_4_method_2_code 4 = .ok (.bipush 120, 2) := by decide +kernel
theorem eT_append_6 : decode prog_4_method_2_code 6 = .ok (.if_icmp .ge 23, 3) := by decide +kernel
theorem eT_append_9 : decode prog_4_method_2_code 9 = .ok (.aload_n 0, 1) := by decide +kernel
theorem eT_append_10 : decode prog_4_method_2_code 10 = .ok (.getfield 9, 3) := by decide +kernel
theorem eT_append_13 : decode prog_4_method_2_code 13 = .ok (.aload_n 0, 1) := by decide +kernel
theorem eT_append_14 : decode prog_4_method_2_code 14 = .ok (.getfield 15, 3) := by decide +kernel
theorem eT_append_17 : decode prog_4_method_2_code 17 = .ok (.iload_n 1, 1) := by decide +kernel
theorem eT_append_18 : decode prog_4_method_2_code 18 = .ok (.iastore, 1) := by decide +kernel
theorem eT_append_19 : decode prog_4_method_2_code 19 = .ok (.aload_n 0, 1) := by decide +kernel
theorem eT_append_20 : decode prog_4_method_2_code 20 = .ok (.dup, 1) := by decide +kernel
theorem eT_append_21 : decode prog_4_method_2_code 21 = .ok (.getfield 15, 3) := by decide +kernel
theorem eT_append_24 : decode prog_4_method_2_code 24 = .ok (.iconst 1, 1) := by decide +kernel
theorem eT_append_25 : decode prog_4_method_2_code 25 = .ok (.iadd, 1) := by decide +kernel
theorem eT_append_26 : decode prog_4_method_2_code 26 = .ok (.putfield 15, 3) := by decide +kernel
theorem eT_append_29 : decode prog_4_method_2_code 29 = .ok (.return_, 1) := by decide +kernel
theorem eW_wipe_0 : decode prog_1_method_26_code 0 = .ok (.aload_n 0, 1) := by decide +kernel
theorem eW_wipe_1 : decode prog_1_method_26_code 1 = .ok (.getfield 29, 3) := by decide +kernel
theorem eW_wipe_4 : decode prog_1_method_26_code 4 = .ok (.invokevirtual 196, 3) := by decide +kernel
theorem eW_wipe_7 : decode prog_1_method_26_code 7 = .ok (.ireturn, 1) := by decide +kernel
theorem eT_clear_0 : decode prog_4_method_3_code 0 = .ok (.aload_n 0, 1) := by decide +kernel
theorem eT_clear_1 : decode prog_4_method_3_code 1 = .ok (.getfield 15, 3) := by decide +kernel
theorem eT_clear_4 : decode prog_4_method_3_code 4 = .ok (.istore_n 1, 1) := by decide +kernel
theorem eT_clear_5 : decode prog_4_method_3_code 5 = .ok (.aload_n 0, 1) := by decide +kernel
theorem eT_clear_6 : decode prog_4_method_3_code 6 = .ok (.iconst 0, 1) := by decide +kernel
theorem eT_clear_7 : decode prog_4_method_3_code 7 = .ok (.putfield 15, 3) := by decide +kernel
theorem eT_clear_10 : decode prog_4_method_3_code 10 = .ok (.iload_n 1, 1) := by decide +kernel
theorem eT_clear_11 : decode prog_4_method_3_code 11 = .ok (.ireturn, 1) := by decide +kernel
theorem eW_palace_0 : decode prog_1_method_27_code 0 = .ok (.aload_n 0, 1) := by decide +kernel
theorem eW_palace_1 : decode prog_1_method_27_code 1 = .ok (.getfield 23, 3) := by decide +kernel
theorem eW_palace_4 : decode prog_1_method_27_code 4 = .ok (.aload_n 0, 1) := by decide +kernel
theorem eW_palace_5 : decode prog_1_method_27_code 5 = .ok (.getfield 10, 3) := by decide +kernel
theorem eW_palace_8 : decode prog_1_method_27_code 8 = .ok (.invokevirtual 183, 3) := by decide +kernel
theorem eW_palace_11 : decode prog_1_method_27_code 11 = .ok (.aload_n 0, 1) := by decide +kernel
theorem eW_palace_12 : decode prog_1_method_27_code 12 = .ok (.getfield 29, 3) := by decide +kernel
theorem eW_palace_15 : decode prog_1_method_27_code 15 = .ok (.aload_n 0, 1) := by decide +kernel
theorem eW_palace_16 : decode prog_1_method_27_code 16 = .ok (.getfield 23, 3) := by decide +kernel
theorem eW_palace_19 : decode prog_1_method_27_code 19 = .ok (.invokevirtual 199, 3) := by decide +kernel
theorem eW_palace_22 : decode prog_1_method_27_code 22 = .ok (.istore_n 1, 1) := by decide +kernel
theorem eW_palace_23 : decode prog_1_method_27_code 23 = .ok (.iload_n 1, 1) := by decide +kernel
theorem eW_palace_24 : decode prog_1_method_27_code 24 = .ok (.ifCond .lt 14, 3) := by decide +kernel
theorem eW_palace_27 : decode prog_1_method_27_code 27 = .ok (.aload_n 0, 1) := by decide +kernel
theorem eW_palace_28 : decode prog_1_method_27_code 28 = .ok (.getfield 10, 3) := by decide +kernel
theorem eW_palace_31 : decode prog_1_method_27_code 31 = .ok (.aload_n 0, 1) := by decide +kernel
theorem eW_palace_32 : decode prog_1_method_27_code 32 = .ok (.getfield 23, 3) := by decide +kernel
theorem eW_palace_35 : decode prog_1_method_27_code 35 = .ok (.invokevirtual 183, 3) := by decide +kernel
theorem eW_palace_38 : decode prog_1_method_27_code 38 = .ok (.aload_n 0, 1) := by decide +kernel
theorem eW_palace_39 : decode prog_1_method_27_code 39 = .ok (.getfield 29, 3) := by decide +kernel
theorem eW_palace_42 : decode prog_1_method_27_code 42 = .ok (.invokevirtual 196, 3) := by decide +kernel
theorem eW_palace_45 : decode prog_1_method_27_code 45 = .ok (.pop, 1) := by decide +kernel
theorem eW_palace_46 : decode prog_1_method_27_code 46 = .ok (.iload_n 1, 1) := by decide +kernel
theorem eW_palace_47 : decode prog_1_method_27_code 47 = .ok (.ireturn, 1) := by decide +kernel
theorem eT_tell_0 : decode prog_4_method_4_code 0 = .ok (.aload_n 0, 1) := by decide +kernel
theorem eT_tell_1 : decode prog_4_method_4_code 1 = .ok (.iconst 0, 1) := by decide +kernel
theorem eT_tell_2 : decode prog_4_method_4_code 2 = .ok (.putfield 22, 3) := by decide +kernel
theorem eT_tell_5 : decode prog_4_method_4_code 5 = .ok (.aload_n 0, 1) := by decide +kernel
theorem eT_tell_6 : decode prog_4_method_4_code 6 = .ok (.invokevirtual 31, 3) := by decide +kernel
theorem eT_tell_9 : decode prog_4_method_4_code 9 = .ok (.iconst 1, 1) := by decide +kernel
theorem eT_tell_10 : decode prog_4_method_4_code 10 = .ok (.istore_n 2, 1) := by decide +kernel
theorem eT_tell_11 : decode prog_4_method_4_code 11 = .ok (.iload_n 2, 1) := by decide +kernel
theorem eT_tell_12 : decode prog_4_method_4_code 12 = .ok (.bipush 120, 2) := by decide +kernel
theorem eT_tell_14 : decode prog_4_method_4_code 14 = .ok (.if_icmp .gt 52, 3) := by decide +kernel
theorem eT_tell_17 : decode prog_4_method_4_code 17 = .ok (.aload_n 0, 1) := by decide +kernel
theorem eT_tell_18 : decode prog_4_method_4_code 18 = .ok (.aload_n 1, 1) := by decide +kernel
theorem eT_tell_19 : decode prog_4_method_4_code 19 = .ok (.invokevirtual 34, 3) := by decide +kernel
theorem eT_tell_22 : decode prog_4_method_4_code 22 = .ok (.ifCond .ne 10, 3) := by decide +kernel
theorem eT_tell_25 : decode prog_4_method_4_code 25 = .ok (.iconst (-1), 1) := by decide +kernel
theorem eT_tell_26 : decode prog_4_method_4_code 26 = .ok (.aload_n 0, 1) := by decide +kernel
theorem eT_tell_27 : decode prog_4_method_4_code 27 = .ok (.getfield 19, 3) := by decide +kernel
theorem eT_tell_30 : decode prog_4_method_4_code 30 = .ok (.isub, 1) := by decide +kernel
theorem eT_tell_31 : decode prog_4_method_4_code 31 = .ok (.ireturn, 1) := by decide +kernel
theorem eT_tell_32 : decode prog_4_method_4_code 32 = .ok (.aload_n 0, 1) := by decide +kernel
theorem eT_tell_33 : decode prog_4_method_4_code 33 = .ok (.getfield 25, 3) := by decide +kernel
theorem eT_tell_36 : decode prog_4_method_4_code 36 = .ok (.ifCond .ne 5, 3) := by decide +kernel
theorem eT_tell_39 : decode prog_4_method_4_code 39 = .ok (.iload_n 2, 1) := by decide +kernel
theorem eT_tell_40 : decode prog_4_method_4_code 40 = .ok (.ireturn, 1) := by decide +kernel
theorem eT_tell_41 : decode prog_4_method_4_code 41 = .ok (.aload_n 0, 1) := by decide +kernel
theorem eT_tell_42 : decode prog_4_method_4_code 42 = .ok (.getfield 25, 3) := by decide +kernel
theorem eT_tell_45 : decode prog_4_method_4_code 45 = .ok (.iconst 4, 1) := by decide +kernel
theorem eT_tell_46 : decode prog_4_method_4_code 46 = .ok (.if_icmp .eq 10, 3) := by decide +kernel
theorem eT_tell_49 : decode prog_4_method_4_code 49 = .ok (.iconst (-1), 1) := by decide +kernel
theorem eT_tell_50 : decode prog_4_method_4_code 50 = .ok (.aload_n 0, 1) := by decide +kernel
theorem eT_tell_51 : decode prog_4_method_4_code 51 = .ok (.getfield 19, 3) := by decide +kernel
theorem eT_tell_54 : decode prog_4_method_4_code 54 = .ok (.isub, 1) := by decide +kernel
theorem eT_tell_55 : decode prog_4_method_4_code 55 = .ok (.ireturn, 1) := by decide +kernel
theorem eT_tell_56 : decode prog_4_method_4_code 56 = .ok (.aload_n 0, 1) := by decide +kernel
theorem eT_tell_57 : decode prog_4_method_4_code 57 = .ok (.invokevirtual 31, 3) := by decide +kernel
theorem eT_tell_60 : decode prog_4_method_4_code 60 = .ok (.iinc 2 1, 3) := by decide +kernel
theorem eT_tell_63 : decode prog_4_method_4_code 63 = .ok (.goto (-52), 3) := by decide +kernel
theorem eT_tell_66 : decode prog_4_method_4_code 66 = .ok (.iconst (-1), 1) := by decide +kernel
theorem eT_tell_67 : decode prog_4_method_4_code 67 = .ok (.aload_n 0, 1) := by decide +kernel
theorem eT_tell_68 : decode prog_4_method_4_code 68 = .ok (.getfield 19, 3) := by decide +kernel
theorem eT_tell_71 : decode prog_4_method_4_code 71 = .ok (.isub, 1) := by decide +kernel
theorem eT_tell_72 : decode prog_4_method_4_code 72 = .ok (.ireturn, 1) := by decide +kernel
theorem eT_next_0 : decode prog_4_method_12_code 0 = .ok (.aload_n 0, 1) := by decide +kernel
theorem eT_next_1 : decode prog_4_method_12_code 1 = .ok (.aload_n 0, 1) := by decide +kernel
theorem eT_next_2 : decode prog_4_method_12_code 2 = .ok (.getfield 22, 3) := by decide +kernel
theorem eT_next_5 : decode prog_4_method_12_code 5 = .ok (.putfield 19, 3) := by decide +kernel
theorem eT_next_8 : decode prog_4_method_12_code 8 = .ok (.aload_n 0, 1) := by decide +kernel
theorem eT_next_9 : decode prog_4_method_12_code 9 = .ok (.getfield 19, 3) := by decide +kernel
theorem eT_next_12 : decode prog_4_method_12_code 12 = .ok (.aload_n 0, 1) := by decide +kernel
theorem eT_next_13 : decode prog_4_method_12_code 13 = .ok (.getfield 15, 3) := by decide +kernel
theorem eT_next_16 : decode prog_4_method_12_code 16 = .ok (.if_icmp .ge 29, 3) := by decide +kernel
theorem eT_next_19 : decode prog_4_method_12_code 19 = .ok (.aload_n 0, 1) := by decide +kernel
theorem eT_next_20 : decode prog_4_method_12_code 20 = .ok (.aload_n 0, 1) := by decide +kernel
theorem eT_next_21 : decode prog_4_method_12_code 21 = .ok (.getfield 19, 3) := by decide +kernel
theorem eT_next_24 : decode prog_4_method_12_code 24 = .ok (.invokevirtual 109, 3) := by decide +kernel
theorem eT_next_27 : decode prog_4_method_12_code 27 = .ok (.bipush 32, 2) := by decide +kernel
theorem eT_next_29 : decode prog_4_method_12_code 29 = .ok (.if_icmp .ne 16, 3) := by decide +kernel
theorem eT_next_32 : decode prog_4_method_12_code 32 = .ok (.aload_n 0, 1) := by decide +kernel
theorem eT_next_33 : decode prog_4_method_12_code 33 = .ok (.dup, 1) := by decide +kernel
theorem eT_next_34 : decode prog_4_method_12_code 34 = .ok (.getfield 19, 3) := by decide +kernel
theorem eT_next_37 : decode prog_4_method_12_code 37 = .ok (.iconst 1, 1) := by decide +kernel
theorem eT_next_38 : decode prog_4_method_12_code 38 = .ok (.iadd, 1) := by decide +kernel
theorem eT_next_39 : decode prog_4_method_12_code 39 = .ok (.putfield 19, 3) := by decide +kernel
theorem eT_next_42 : decode prog_4_method_12_code 42 = .ok (.goto (-34), 3) := by decide +kernel
theorem eT_next_45 : decode prog_4_method_12_code 45 = .ok (.aload_n 0, 1) := by decide +kernel
theorem eT_next_46 : decode prog_4_method_12_code 46 = .ok (.aload_n 0, 1) := by decide +kernel
theorem eT_next_47 : decode prog_4_method_12_code 47 = .ok (.getfield 19, 3) := by decide +kernel
theorem eT_next_50 : decode prog_4_method_12_code 50 = .ok (.putfield 22, 3) := by decide +kernel
theorem eT_next_53 : decode prog_4_method_12_code 53 = .ok (.aload_n 0, 1) := by decide +kernel
theorem eT_next_54 : decode prog_4_method_12_code 54 = .ok (.aload_n 0, 1) := by decide +kernel
theorem eT_next_55 : decode prog_4_method_12_code 55 = .ok (.aload_n 0, 1) := by decide +kernel
theorem eT_next_56 : decode prog_4_method_12_code 56 = .ok (.aload_n 0, 1) := by decide +kernel
theorem eT_next_57 : decode prog_4_method_12_code 57 = .ok (.getfield 19, 3) := by decide +kernel
theorem eT_next_60 : decode prog_4_method_12_code 60 = .ok (.invokevirtual 109, 3) := by decide +kernel
theorem eT_next_63 : decode prog_4_method_12_code 63 = .ok (.invokevirtual 121, 3) := by decide +kernel
theorem eT_next_66 : decode prog_4_method_12_code 66 = .ok (.putfield 25, 3) := by decide +kernel
theorem eT_next_69 : decode prog_4_method_12_code 69 = .ok (.aload_n 0, 1) := by decide +kernel
theorem eT_next_70 : decode prog_4_method_12_code 70 = .ok (.getfield 25, 3) := by decide +kernel
theorem eT_next_73 : decode prog_4_method_12_code 73 = .ok (.iconst 2, 1) := by decide +kernel
theorem eT_next_74 : decode prog_4_method_12_code 74 = .ok (.if_icmp .eq 11, 3) := by decide +kernel
theorem eT_next_77 : decode prog_4_method_12_code 77 = .ok (.aload_n 0, 1) := by decide +kernel
theorem eT_next_78 : decode prog_4_method_12_code 78 = .ok (.getfield 25, 3) := by decide +kernel
theorem eT_next_81 : decode prog_4_method_12_code 81 = .ok (.iconst 3, 1) := by decide +kernel
theorem eT_next_82 : decode prog_4_method_12_code 82 = .ok (.if_icmp .ne 46, 3) := by decide +kernel
theorem eT_next_85 : decode prog_4_method_12_code 85 = .ok (.aload_n 0, 1) := by decide +kernel
theorem eT_next_86 : decode prog_4_method_12_code 86 = .ok (.getfield 22, 3) := by decide +kernel
theorem eT_next_89 : decode prog_4_method_12_code 89 = .ok (.aload_n 0, 1) := by decide +kernel
theorem eT_next_90 : decode prog_4_method_12_code 90 = .ok (.getfield 15, 3) := by decide +kernel
theorem eT_next_93 : decode prog_4_method_12_code 93 = .ok (.if_icmp .ge 53, 3) := by decide +kernel
theorem eT_next_96 : decode prog_4_method_12_code 96 = .ok (.aload_n 0, 1) := by decide +kernel
theorem eT_next_97 : decode prog_4_method_12_code 97 = .ok (.aload_n 0, 1) := by decide +kernel
theorem eT_next_98 : decode prog_4_method_12_code 98 = .ok (.aload_n 0, 1) := by decide +kernel
theorem eT_next_99 : decode prog_4_method_12_code 99 = .ok (.getfield 22, 3) := by decide +kernel
theorem eT_next_102 : decode prog_4_method_12_code 102 = .ok (.invokevirtual 109, 3) := by decide +kernel
theorem eT_next_105 : decode prog_4_method_12_code 105 = .ok (.invokevirtual 121, 3) := by decide +kernel
theorem eT_next_108 : decode prog_4_method_12_code 108 = .ok (.aload_n 0, 1) := by decide +kernel
theorem eT_next_109 : decode prog_4_method_12_code 109 = .ok (.getfield 25, 3) := by decide +kernel
theorem eT_next_112 : decode prog_4_method_12_code 112 = .ok (.if_icmp .ne 34, 3) := by decide +kernel
theorem eT_next_115 : decode prog_4_method_12_code 115 = .ok (.aload_n 0, 1) := by decide +kernel
theorem eT_next_116 : decode prog_4_method_12_code 116 = .ok (.dup, 1) := by decide +kernel
theorem eT_next_117 : decode prog_4_method_12_code 117 = .ok (.getfield 22, 3) := by decide +kernel
theorem eT_next_120 : decode prog_4_method_12_code 120 = .ok (.iconst 1, 1) := by decide +kernel
theorem eT_next_121 : decode prog_4_method_12_code 121 = .ok (.iadd, 1) := by decide +kernel
theorem eT_next_122 : decode prog_4_method_12_code 122 = .ok (.putfield 22, 3) := by decide +kernel
theorem eT_next_125 : decode prog_4_method_12_code 125 = .ok (.goto (-40), 3) := by decide +kernel
theorem eT_next_128 : decode prog_4_method_12_code 128 = .ok (.aload_n 0, 1) := by decide +kernel
theorem eT_next_129 : decode prog_4_method_12_code 129 = .ok (.getfield 25, 3) := by decide +kernel
theorem eT_next_132 : decode prog_4_method_12_code 132 = .ok (.iconst 4, 1) := by decide +kernel
theorem eT_next_133 : decode prog_4_method_12_code 133 = .ok (.if_icmp .ne 13, 3) := by decide +kernel
theorem eT_next_136 : decode prog_4_method_12_code 136 = .ok (.aload_n 0, 1) := by decide +kernel
theorem eT_next_137 : decode prog_4_method_12_code 137 = .ok (.dup, 1) := by decide +kernel
theorem eT_next_138 : decode prog_4_method_12_code 138 = .ok (.getfield 22, 3) := by decide +kernel
theorem eT_next_141 : decode prog_4_method_12_code 141 = .ok (.iconst 1, 1) := by decide +kernel
theorem eT_next_142 : decode prog_4_method_12_code 142 = .ok (.iadd, 1) := by decide +kernel
theorem eT_next_143 : decode prog_4_method_12_code 143 = .ok (.putfield 22, 3) := by decide +kernel
theorem eT_next_146 : decode prog_4_method_12_code 146 = .ok (.aload_n 0, 1) := by decide +kernel
theorem eT_next_147 : decode prog_4_method_12_code 147 = .ok (.aload_n 0, 1) := by decide +kernel
theorem eT_next_148 : decode prog_4_method_12_code 148 = .ok (.getfield 25, 3) := by decide +kernel
theorem eT_next_151 : decode prog_4_method_12_code 151 = .ok (.iconst 3, 1) := by decide +kernel
theorem eT_next_152 : decode prog_4_method_12_code 152 = .ok (.if_icmp .ne 10, 3) := by decide +kernel
theorem eT_next_155 : decode prog_4_method_12_code 155 = .ok (.aload_n 0, 1) := by decide +kernel
theorem eT_next_156 : decode prog_4_method_12_code 156 = .ok (.invokevirtual 124, 3) := by decide +kernel
theorem eT_next_159 : decode prog_4_method_12_code 159 = .ok (.goto 4, 3) := by decide +kernel
theorem eT_next_162 : decode prog_4_method_12_code 162 = .ok (.iconst 0, 1) := by decide +kernel
theorem eT_next_163 : decode prog_4_method_12_code 163 = .ok (.putfield 28, 3) := by decide +kernel
theorem eT_next_166 : decode prog_4_method_12_code 166 = .ok (.return_, 1) := by decide +kernel
theorem eT_byteAt_0 : decode prog_4_method_14_code 0 = .ok (.iload_n 1, 1) := by decide +kernel
theorem eT_byteAt_1 : decode prog_4_method_14_code 1 = .ok (.ifCond .lt 20, 3) := by decide +kernel
theorem eT_byteAt_4 : decode prog_4_method_14_code 4 = .ok (.iload_n 1, 1) := by decide +kernel
theorem eT_byteAt_5 : decode prog_4_method_14_code 5 = .ok (.aload_n 0, 1) := by decide +kernel
theorem eT_byteAt_6 : decode prog_4_method_14_code 6 = .ok (.getfield 15, 3) := by decide +kernel
theorem eT_byteAt_9 : decode prog_4_method_14_code 9 = .ok (.if_icmp .ge 12, 3) := by decide +kernel
theorem eT_byteAt_12 : decode prog_4_method_14_code 12 = .ok (.aload_n 0, 1) := by decide +kernel
theorem eT_byteAt_13 : decode prog_4_method_14_code 13 = .ok (.getfield 9, 3) := by decide +kernel
theorem eT_byteAt_16 : decode prog_4_method_14_code 16 = .ok (.iload_n 1, 1) := by decide +kernel
theorem eT_byteAt_17 : decode prog_4_method_14_code 17 = .ok (.iaload, 1) := by decide +kernel
theorem eT_byteAt_18 : decode prog_4_method_14_code 18 = .ok (.goto 4, 3) := by decide +kernel
theorem eT_byteAt_21 : decode prog_4_method_14_code 21 = .ok (.iconst (-1), 1) := by decide +kernel
theorem eT_byteAt_22 : decode prog_4_method_14_code 22 = .ok (.ireturn, 1) := by decide +kernel
theorem eT_sortOf_0 : decode prog_4_method_13_code 0 = .ok (.iload_n 1, 1) := by decide +kernel
theorem eT_sortOf_1 : decode prog_4_method_13_code 1 = .ok (.ifCond .ge 5, 3) := by decide +kernel
theorem eT_sortOf_4 : decode prog_4_method_13_code 4 = .ok (.iconst 0, 1) := by decide +kernel
theorem eT_sortOf_5 : decode prog_4_method_13_code 5 = .ok (.ireturn, 1) := by decide +kernel
theorem eT_sortOf_6 : decode prog_4_method_13_code 6 = .ok (.iload_n 1, 1) := by decide +kernel
theorem eT_sortOf_7 : decode prog_4_method_13_code 7 = .ok (.bipush 59, 2) := by decide +kernel
theorem eT_sortOf_9 : decode prog_4_method_13_code 9 = .ok (.if_icmp .ne 5, 3) := by decide +kernel
theorem eT_sortOf_12 : decode prog_4_method_13_code 12 = .ok (.iconst 4, 1) := by decide +kernel
theorem eT_sortOf_13 : decode prog_4_method_13_code 13 = .ok (.ireturn, 1) := by decide +kernel
theorem eT_sortOf_14 : decode prog_4_method_13_code 14 = .ok (.iload_n 1, 1) := by decide +kernel
theorem eT_sortOf_15 : decode prog_4_method_13_code 15 = .ok (.bipush 97, 2) := by decide +kernel
theorem eT_sortOf_17 : decode prog_4_method_13_code 17 = .ok (.if_icmp .lt 11, 3) := by decide +kernel
theorem eT_sortOf_20 : decode prog_4_method_13_code 20 = .ok (.iload_n 1, 1) := by decide +kernel
theorem eT_sortOf_21 : decode prog_4_method_13_code 21 = .ok (.bipush 122, 2) := by decide +kernel
theorem eT_sortOf_23 : decode prog_4_method_13_code 23 = .ok (.if_icmp .gt 5, 3) := by decide +kernel
theorem eT_sortOf_26 : decode prog_4_method_13_code 26 = .ok (.iconst 2, 1) := by decide +kernel
theorem eT_sortOf_27 : decode prog_4_method_13_code 27 = .ok (.ireturn, 1) := by decide +kernel
theorem eT_sortOf_28 : decode prog_4_method_13_code 28 = .ok (.iload_n 1, 1) := by decide +kernel
theorem eT_sortOf_29 : decode prog_4_method_13_code 29 = .ok (.bipush 48, 2) := by decide +kernel
theorem eT_sortOf_31 : decode prog_4_method_13_code 31 = .ok (.if_icmp .lt 13, 3) := by decide +kernel
theorem eT_sortOf_34 : decode prog_4_method_13_code 34 = .ok (.iload_n 1, 1) := by decide +kernel
theorem eT_sortOf_35 : decode prog_4_method_13_code 35 = .ok (.bipush 57, 2) := by decide +kernel
theorem eT_sortOf_37 : decode prog_4_method_13_code 37 = .ok (.if_icmp .gt 7, 3) := by decide +kernel
theorem eT_sortOf_40 : decode prog_4_method_13_code 40 = .ok (.iconst 3, 1) := by decide +kernel
theorem eT_sortOf_41 : decode prog_4_method_13_code 41 = .ok (.goto 4, 3) := by decide +kernel
theorem eT_sortOf_44 : decode prog_4_method_13_code 44 = .ok (.iconst 1, 1) := by decide +kernel
theorem eT_sortOf_45 : decode prog_4_method_13_code 45 = .ok (.ireturn, 1) := by decide +kernel
theorem eT_numberAtHand_0 : decode prog_4_method_15_code 0 = .ok (.iconst 0, 1) := by decide +kernel
theorem eT_numberAtHand_1 : decode prog_4_method_15_code 1 = .ok (.istore_n 1, 1) := by decide +kernel
theorem eT_numberAtHand_2 : decode prog_4_method_15_code 2 = .ok (.aload_n 0, 1) := by decide +kernel
theorem eT_numberAtHand_3 : decode prog_4_method_15_code 3 = .ok (.getfield 19, 3) := by decide +kernel
theorem eT_numberAtHand_6 : decode prog_4_method_15_code 6 = .ok (.istore_n 2, 1) := by decide +kernel
theorem eT_numberAtHand_7 : decode prog_4_method_15_code 7 = .ok (.iload_n 2, 1) := by decide +kernel
theorem eT_numberAtHand_8 : decode prog_4_method_15_code 8 = .ok (.aload_n 0, 1) := by decide +kernel
theorem eT_numberAtHand_9 : decode prog_4_method_15_code 9 = .ok (.getfield 22, 3) := by decide +kernel
theorem eT_numberAtHand_12 : decode prog_4_method_15_code 12 = .ok (.if_icmp .ge 29, 3) := by decide +kernel
theorem eT_numberAtHand_15 : decode prog_4_method_15_code 15 = .ok (.sipush 1000, 3) := by decide +kernel
theorem eT_numberAtHand_18 : decode prog_4_method_15_code 18 = .ok (.iload_n 1, 1) := by decide +kernel
theorem eT_numberAtHand_19 : decode prog_4_method_15_code 19 = .ok (.bipush 10, 2) := by decide +kernel
theorem eT_numberAtHand_21 : decode prog_4_method_15_code 21 = .ok (.imul, 1) := by decide +kernel
theorem eT_numberAtHand_22 : decode prog_4_method_15_code 22 = .ok (.aload_n 0, 1) := by decide +kernel
theorem eT_numberAtHand_23 : decode prog_4_method_15_code 23 = .ok (.iload_n 2, 1) := by decide +kernel
theorem eT_numberAtHand_24 : decode prog_4_method_15_code 24 = .ok (.invokevirtual 109, 3) := by decide +kernel
theorem eT_numberAtHand_27 : decode prog_4_method_15_code 27 = .ok (.iadd, 1) := by decide +kernel
theorem eT_numberAtHand_28 : decode prog_4_method_15_code 28 = .ok (.bipush 48, 2) := by decide +kernel
theorem eT_numberAtHand_30 : decode prog_4_method_15_code 30 = .ok (.isub, 1) := by decide +kernel
theorem eT_numberAtHand_31 : decode prog_4_method_15_code 31 = .ok (.invokestatic 127, 3) := by decide +kernel
theorem eT_numberAtHand_34 : decode prog_4_method_15_code 34 = .ok (.istore_n 1, 1) := by decide +kernel
theorem eT_numberAtHand_35 : decode prog_4_method_15_code 35 = .ok (.iinc 2 1, 3) := by decide +kernel
theorem eT_numberAtHand_38 : decode prog_4_method_15_code 38 = .ok (.goto (-31), 3) := by decide +kernel
theorem eT_numberAtHand_41 : decode prog_4_method_15_code 41 = .ok (.iload_n 1, 1) := by decide +kernel
theorem eT_numberAtHand_42 : decode prog_4_method_15_code 42 = .ok (.ireturn, 1) := by decide +kernel
theorem eT_takesItem_0 : decode prog_4_method_5_code 0 = .ok (.aload_n 0, 1) := by decide +kernel
theorem eT_takesItem_1 : decode prog_4_method_5_code 1 = .ok (.invokevirtual 38, 3) := by decide +kernel
theorem eT_takesItem_4 : decode prog_4_method_5_code 4 = .ok (.istore_n 2, 1) := by decide +kernel
theorem eT_takesItem_5 : decode prog_4_method_5_code 5 = .ok (.iload_n 2, 1) := by decide +kernel
theorem eT_takesItem_6 : decode prog_4_method_5_code 6 = .ok (.ifCond .lt 10, 3) := by decide +kernel
theorem eT_takesItem_9 : decode prog_4_method_5_code 9 = .ok (.aload_n 0, 1) := by decide +kernel
theorem eT_takesItem_10 : decode prog_4_method_5_code 10 = .ok (.aload_n 1, 1) := by decide +kernel
theorem eT_takesItem_11 : decode prog_4_method_5_code 11 = .ok (.iload_n 2, 1) := by decide +kernel
theorem eT_takesItem_12 : decode prog_4_method_5_code 12 = .ok (.invokevirtual 42, 3) := by decide +kernel
theorem eT_takesItem_15 : decode prog_4_method_5_code 15 = .ok (.ireturn, 1) := by decide +kernel
theorem eT_takesItem_16 : decode prog_4_method_5_code 16 = .ok (.aload_n 0, 1) := by decide +kernel
theorem eT_takesItem_17 : decode prog_4_method_5_code 17 = .ok (.invokevirtual 46, 3) := by decide +kernel
theorem eT_takesItem_20 : decode prog_4_method_5_code 20 = .ok (.istore_n 3, 1) := by decide +kernel
theorem eT_takesItem_21 : decode prog_4_method_5_code 21 = .ok (.iload_n 3, 1) := by decide +kernel
theorem eT_takesItem_22 : decode prog_4_method_5_code 22 = .ok (.ifCond .ge 5, 3) := by decide +kernel
theorem eT_takesItem_25 : decode prog_4_method_5_code 25 = .ok (.iconst 0, 1) := by decide +kernel
theorem eT_takesItem_26 : decode prog_4_method_5_code 26 = .ok (.ireturn, 1) := by decide +kernel
theorem eT_takesItem_27 : decode prog_4_method_5_code 27 = .ok (.aload_n 0, 1) := by decide +kernel
theorem eT_takesItem_28 : decode prog_4_method_5_code 28 = .ok (.invokevirtual 31, 3) := by decide +kernel
theorem eT_takesItem_31 : decode prog_4_method_5_code 31 = .ok (.aload_n 0, 1) := by decide +kernel
theorem eT_takesItem_32 : decode prog_4_method_5_code 32 = .ok (.getstatic 49, 3) := by decide +kernel
theorem eT_takesItem_35 : decode prog_4_method_5_code 35 = .ok (.iload_n 3, 1) := by decide +kernel
theorem eT_takesItem_36 : decode prog_4_method_5_code 36 = .ok (.iaload, 1) := by decide +kernel
theorem eT_takesItem_37 : decode prog_4_method_5_code 37 = .ok (.getstatic 52, 3) := by decide +kernel
theorem eT_takesItem_40 : decode prog_4_method_5_code 40 = .ok (.iload_n 3, 1) := by decide +kernel
theorem eT_takesItem_41 : decode prog_4_method_5_code 41 = .ok (.iaload, 1) := by decide +kernel
theorem eT_takesItem_42 : decode prog_4_method_5_code 42 = .ok (.invokevirtual 55, 3) := by decide +kernel
theorem eT_takesItem_45 : decode prog_4_method_5_code 45 = .ok (.ifCond .ne 5, 3) := by decide +kernel
theorem eT_takesItem_48 : decode prog_4_method_5_code 48 = .ok (.iconst 0, 1) := by decide +kernel
theorem eT_takesItem_49 : decode prog_4_method_5_code 49 = .ok (.ireturn, 1) := by decide +kernel
theorem eT_takesItem_50 : decode prog_4_method_5_code 50 = .ok (.aload_n 1, 1) := by decide +kernel
theorem eT_takesItem_51 : decode prog_4_method_5_code 51 = .ok (.getfield 59, 3) := by decide +kernel
theorem eT_takesItem_54 : decode prog_4_method_5_code 54 = .ok (.iload_n 3, 1) := by decide +kernel
theorem eT_takesItem_55 : decode prog_4_method_5_code 55 = .ok (.aload_n 0, 1) := by decide +kernel
theorem eT_takesItem_56 : decode prog_4_method_5_code 56 = .ok (.getfield 28, 3) := by decide +kernel
theorem eT_takesItem_59 : decode prog_4_method_5_code 59 = .ok (.iastore, 1) := by decide +kernel
theorem eT_takesItem_60 : decode prog_4_method_5_code 60 = .ok (.aload_n 0, 1) := by decide +kernel
theorem eT_takesItem_61 : decode prog_4_method_5_code 61 = .ok (.invokevirtual 31, 3) := by decide +kernel
theorem eT_takesItem_64 : decode prog_4_method_5_code 64 = .ok (.iconst 1, 1) := by decide +kernel
theorem eT_takesItem_65 : decode prog_4_method_5_code 65 = .ok (.ireturn, 1) := by decide +kernel
theorem eT_kindNamed_0 : decode prog_4_method_7_code 0 = .ok (.iconst 0, 1) := by decide +kernel
theorem eT_kindNamed_1 : decode prog_4_method_7_code 1 = .ok (.istore_n 1, 1) := by decide +kernel
theorem eT_kindNamed_2 : decode prog_4_method_7_code 2 = .ok (.iload_n 1, 1) := by decide +kernel
theorem eT_kindNamed_3 : decode prog_4_method_7_code 3 = .ok (.bipush 6, 2) := by decide +kernel
theorem eT_kindNamed_5 : decode prog_4_method_7_code 5 = .ok (.if_icmp .ge 23, 3) := by decide +kernel
theorem eT_kindNamed_8 : decode prog_4_method_7_code 8 = .ok (.aload_n 0, 1) := by decide +kernel
theorem eT_kindNamed_9 : decode prog_4_method_7_code 9 = .ok (.aload_n 0, 1) := by decide +kernel
theorem eT_kindNamed_10 : decode prog_4_method_7_code 10 = .ok (.iload_n 1, 1) := by decide +kernel
theorem eT_kindNamed_11 : decode prog_4_method_7_code 11 = .ok (.invokevirtual 82, 3) := by decide +kernel
theorem eT_kindNamed_14 : decode prog_4_method_7_code 14 = .ok (.invokevirtual 70, 3) := by decide +kernel
theorem eT_kindNamed_17 : decode prog_4_method_7_code 17 = .ok (.ifCond .eq 5, 3) := by decide +kernel
theorem eT_kindNamed_20 : decode prog_4_method_7_code 20 = .ok (.iload_n 1, 1) := by decide +kernel
theorem eT_kindNamed_21 : decode prog_4_method_7_code 21 = .ok (.ireturn, 1) := by decide +kernel
theorem eT_kindNamed_22 : decode prog_4_method_7_code 22 = .ok (.iinc 1 1, 3) := by decide +kernel
theorem eT_kindNamed_25 : decode prog_4_method_7_code 25 = .ok (.goto (-23), 3) := by decide +kernel
theorem eT_kindNamed_28 : decode prog_4_method_7_code 28 = .ok (.iconst (-1), 1) := by decide +kernel
theorem eT_kindNamed_29 : decode prog_4_method_7_code 29 = .ok (.ireturn, 1) := by decide +kernel
theorem eT_nameOfKind_0 : decode prog_4_method_9_code 0 = .ok (.iload_n 1, 1) := by decide +kernel
theorem eT_nameOfKind_1 : decode prog_4_method_9_code 1 = .ok (.tableswitch 50 1 5 #[35, 38, 41, 44, 47], 35) := by decide +kernel
theorem eT_nameOfKind_36 : decode prog_4_method_9_code 36 = .ok (.ldc 92, 2) := by decide +kernel
theorem eT_nameOfKind_38 : decode prog_4_method_9_code 38 = .ok (.areturn, 1) := by decide +kernel
theorem eT_nameOfKind_39 : decode prog_4_method_9_code 39 = .ok (.ldc 94, 2) := by decide +kernel
theorem eT_nameOfKind_41 : decode prog_4_method_9_code 41 = .ok (.areturn, 1) := by decide +kernel
theorem eT_nameOfKind_42 : decode prog_4_method_9_code 42 = .ok (.ldc 96, 2) := by decide +kernel
theorem eT_nameOfKind_44 : decode prog_4_method_9_code 44 = .ok (.areturn, 1) := by decide +kernel
theorem eT_nameOfKind_45 : decode prog_4_method_9_code 45 = .ok (.ldc 98, 2) := by decide +kernel
theorem eT_nameOfKind_47 : decode prog_4_method_9_code 47 = .ok (.areturn, 1) := by decide +kernel
theorem eT_nameOfKind_48 : decode prog_4_method_9_code 48 = .ok (.ldc 100, 2) := by decide +kernel
theorem eT_nameOfKind_50 : decode prog_4_method_9_code 50 = .ok (.areturn, 1) := by decide +kernel
theorem eT_nameOfKind_51 : decode prog_4_method_9_code 51 = .ok (.ldc 102, 2) := by decide +kernel
theorem eT_nameOfKind_53 : decode prog_4_method_9_code 53 = .ok (.areturn, 1) := by decide +kernel
theorem eT_isNamed_0 : decode prog_4_method_10_code 0 = .ok (.aload_n 0, 1) := by decide +kernel
theorem eT_isNamed_1 : decode prog_4_method_10_code 1 = .ok (.getfield 25, 3) := by decide +kernel
theorem eT_isNamed_4 : decode prog_4_method_10_code 4 = .ok (.iconst 2, 1) := by decide +kernel
theorem eT_isNamed_5 : decode prog_4_method_10_code 5 = .ok (.if_icmp .ne 19, 3) := by decide +kernel
theorem eT_isNamed_8 : decode prog_4_method_10_code 8 = .ok (.aload_n 0, 1) := by decide +kernel
theorem eT_isNamed_9 : decode prog_4_method_10_code 9 = .ok (.getfield 22, 3) := by decide +kernel
theorem eT_isNamed_12 : decode prog_4_method_10_code 12 = .ok (.aload_n 0, 1) := by decide +kernel
theorem eT_isNamed_13 : decode prog_4_method_10_code 13 = .ok (.getfield 19, 3) := by decide +kernel
theorem eT_isNamed_16 : decode prog_4_method_10_code 16 = .ok (.isub, 1) := by decide +kernel
theorem eT_isNamed_17 : decode prog_4_method_10_code 17 = .ok (.aload_n 1, 1) := by decide +kernel
theorem eT_isNamed_18 : decode prog_4_method_10_code 18 = .ok (.invokevirtual 104, 3) := by decide +kernel
theorem eT_isNamed_21 : decode prog_4_method_10_code 21 = .ok (.if_icmp .eq 5, 3) := by decide +kernel
theorem eT_isNamed_24 : decode prog_4_method_10_code 24 = .ok (.iconst 0, 1) := by decide +kernel
theorem eT_isNamed_25 : decode prog_4_method_10_code 25 = .ok (.ireturn, 1) := by decide +kernel
theorem eT_isNamed_26 : decode prog_4_method_10_code 26 = .ok (.iconst 0, 1) := by decide +kernel
theorem eT_isNamed_27 : decode prog_4_method_10_code 27 = .ok (.istore_n 2, 1) := by decide +kernel
theorem eT_isNamed_28 : decode prog_4_method_10_code 28 = .ok (.iload_n 2, 1) := by decide +kernel
theorem eT_isNamed_29 : decode prog_4_method_10_code 29 = .ok (.aload_n 1, 1) := by decide +kernel
theorem eT_isNamed_30 : decode prog_4_method_10_code 30 = .ok (.invokevirtual 104, 3) := by decide +kernel
theorem eT_isNamed_33 : decode prog_4_method_10_code 33 = .ok (.if_icmp .ge 29, 3) := by decide +kernel
theorem eT_isNamed_36 : decode prog_4_method_10_code 36 = .ok (.aload_n 0, 1) := by decide +kernel
theorem eT_isNamed_37 : decode prog_4_method_10_code 37 = .ok (.aload_n 0, 1) := by decide +kernel
theorem eT_isNamed_38 : decode prog_4_method_10_code 38 = .ok (.getfield 19, 3) := by decide +kernel
theorem eT_isNamed_41 : decode prog_4_method_10_code 41 = .ok (.iload_n 2, 1) := by decide +kernel
theorem eT_isNamed_42 : decode prog_4_method_10_code 42 = .ok (.iadd, 1) := by decide +kernel
theorem eT_isNamed_43 : decode prog_4_method_10_code 43 = .ok (.invokevirtual 109, 3) := by decide +kernel
theorem eT_isNamed_46 : decode prog_4_method_10_code 46 = .ok (.aload_n 1, 1) := by decide +kernel
theorem eT_isNamed_47 : decode prog_4_method_10_code 47 = .ok (.iload_n 2, 1) := by decide +kernel
theorem eT_isNamed_48 : decode prog_4_method_10_code 48 = .ok (.invokevirtual 113, 3) := by decide +kernel
theorem eT_isNamed_51 : decode prog_4_method_10_code 51 = .ok (.if_icmp .eq 5, 3) := by decide +kernel
theorem eT_isNamed_54 : decode prog_4_method_10_code 54 = .ok (.iconst 0, 1) := by decide +kernel
theorem eT_isNamed_55 : decode prog_4_method_10_code 55 = .ok (.ireturn, 1) := by decide +kernel
theorem eT_isNamed_56 : decode prog_4_method_10_code 56 = .ok (.iinc 2 1, 3) := by decide +kernel
theorem eT_isNamed_59 : decode prog_4_method_10_code 59 = .ok (.goto (-31), 3) := by decide +kernel
theorem eT_isNamed_62 : decode prog_4_method_10_code 62 = .ok (.iconst 1, 1) := by decide +kernel
theorem eT_isNamed_63 : decode prog_4_method_10_code 63 = .ok (.ireturn, 1) := by decide +kernel
theorem eJStr_length_0 : decode prog_9_method_54_code 0 = .ok (.aload_n 0, 1) := by decide +kernel
theorem eJStr_length_1 : decode prog_9_method_54_code 1 = .ok (.getfield 9, 3) := by decide +kernel
theorem eJStr_length_4 : decode prog_9_method_54_code 4 = .ok (.arraylength, 1) := by decide +kernel
theorem eJStr_length_5 : decode prog_9_method_54_code 5 = .ok (.aload_n 0, 1) := by decide +kernel
theorem eJStr_length_6 : decode prog_9_method_54_code 6 = .ok (.invokevirtual 335, 3) := by decide +kernel
theorem eJStr_length_9 : decode prog_9_method_54_code 9 = .ok (.ishr, 1) := by decide +kernel
theorem eJStr_length_10 : decode prog_9_method_54_code 10 = .ok (.ireturn, 1) := by decide +kernel
theorem eJStr_coder_0 : decode prog_9_method_152_code 0 = .ok (.getstatic 38, 3) := by decide +kernel
theorem eJStr_coder_3 : decode prog_9_method_152_code 3 = .ok (.ifCond .eq 10, 3) := by decide +kernel
theorem eJStr_coder_6 : decode prog_9_method_152_code 6 = .ok (.aload_n 0, 1) := by decide +kernel
theorem eJStr_coder_7 : decode prog_9_method_152_code 7 = .ok (.getfield 15, 3) := by decide +kernel
theorem eJStr_coder_10 : decode prog_9_method_152_code 10 = .ok (.goto 4, 3) := by decide +kernel
theorem eJStr_coder_13 : decode prog_9_method_152_code 13 = .ok (.iconst 1, 1) := by decide +kernel
theorem eJStr_coder_14 : decode prog_9_method_152_code 14 = .ok (.ireturn, 1) := by decide +kernel
theorem eJStr_charAt_0 : decode prog_9_method_56_code 0 = .ok (.aload_n 0, 1) := by decide +kernel
theorem eJStr_charAt_1 : decode prog_9_method_56_code 1 = .ok (.invokevirtual 492, 3) := by decide +kernel
theorem eJStr_charAt_4 : decode prog_9_method_56_code 4 = .ok (.ifCond .eq 12, 3) := by decide +kernel
theorem eJStr_charAt_7 : decode prog_9_method_56_code 7 = .ok (.aload_n 0, 1) := by decide +kernel
theorem eJStr_charAt_8 : decode prog_9_method_56_code 8 = .ok (.getfield 9, 3) := by decide +kernel
theorem eJStr_charAt_11 : decode prog_9_method_56_code 11 = .ok (.iload_n 1, 1) := by decide +kernel
theorem eJStr_charAt_12 : decode prog_9_method_56_code 12 = .ok (.invokestatic 495, 3) := by decide +kernel
theorem eJStr_charAt_15 : decode prog_9_method_56_code 15 = .ok (.ireturn, 1) := by decide +kernel
theorem eJStr_isLatin1_0 : decode prog_9_method_154_code 0 = .ok (.getstatic 38, 3) := by decide +kernel
theorem eJStr_isLatin1_3 : decode prog_9_method_154_code 3 = .ok (.ifCond .eq 14, 3) := by decide +kernel
theorem eJStr_isLatin1_6 : decode prog_9_method_154_code 6 = .ok (.aload_n 0, 1) := by decide +kernel
theorem eJStr_isLatin1_7 : decode prog_9_method_154_code 7 = .ok (.getfield 15, 3) := by decide +kernel
theorem eJStr_isLatin1_10 : decode prog_9_method_154_code 10 = .ok (.ifCond .ne 7, 3) := by decide +kernel
theorem eJStr_isLatin1_13 : decode prog_9_method_154_code 13 = .ok (.iconst 1, 1) := by decide +kernel
theorem eJStr_isLatin1_14 : decode prog_9_method_154_code 14 = .ok (.goto 4, 3) := by decide +kernel
theorem eJStr_isLatin1_17 : decode prog_9_method_154_code 17 = .ok (.iconst 0, 1) := by decide +kernel
theorem eJStr_isLatin1_18 : decode prog_9_method_154_code 18 = .ok (.ireturn, 1) := by decide +kernel
theorem eJLat_charAt_0 : decode prog_10_method_2_code 0 = .ok (.iload_n 1, 1) := by decide +kernel
theorem eJLat_charAt_1 : decode prog_10_method_2_code 1 = .ok (.aload_n 0, 1) := by decide +kernel
theorem eJLat_charAt_2 : decode prog_10_method_2_code 2 = .ok (.arraylength, 1) := by decide +kernel
theorem eJLat_charAt_3 : decode prog_10_method_2_code 3 = .ok (.invokestatic 9, 3) := by decide +kernel
theorem eJLat_charAt_6 : decode prog_10_method_2_code 6 = .ok (.aload_n 0, 1) := by decide +kernel
theorem eJLat_charAt_7 : decode prog_10_method_2_code 7 = .ok (.iload_n 1, 1) := by decide +kernel
theorem eJLat_charAt_8 : decode prog_10_method_2_code 8 = .ok (.baload, 1) := by decide +kernel
theorem eJLat_charAt_9 : decode prog_10_method_2_code 9 = .ok (.sipush 255, 3) := by decide +kernel
theorem eJLat_charAt_12 : decode prog_10_method_2_code 12 = .ok (.iand, 1) := by decide +kernel
theorem eJLat_charAt_13 : decode prog_10_method_2_code 13 = .ok (.i2c, 1) := by decide +kernel
theorem eJLat_charAt_14 : decode prog_10_method_2_code 14 = .ok (.ireturn, 1) := by decide +kernel
theorem eJStr_checkIndex_0 : decode prog_9_method_155_code 0 = .ok (.iload_n 0, 1) := by decide +kernel
theorem eJStr_checkIndex_1 : decode prog_9_method_155_code 1 = .ok (.iload_n 1, 1) := by decide +kernel
theorem eJStr_checkIndex_2 : decode prog_9_method_155_code 2 = .ok (.getstatic 1053, 3) := by decide +kernel
theorem eJStr_checkIndex_5 : decode prog_9_method_155_code 5 = .ok (.invokestatic 1059, 3) := by decide +kernel
theorem eJStr_checkIndex_8 : decode prog_9_method_155_code 8 = .ok (.pop, 1) := by decide +kernel
theorem eJStr_checkIndex_9 : decode prog_9_method_155_code 9 = .ok (.return_, 1) := by decide +kernel
theorem eJPre_checkIndex_0 : decode prog_14_method_11_code 0 = .ok (.iload_n 0, 1) := by decide +kernel
theorem eJPre_checkIndex_1 : decode prog_14_method_11_code 1 = .ok (.ifCond .lt 8, 3) := by decide +kernel
theorem eJPre_checkIndex_4 : decode prog_14_method_11_code 4 = .ok (.iload_n 0, 1) := by decide +kernel
theorem eJPre_checkIndex_5 : decode prog_14_method_11_code 5 = .ok (.iload_n 1, 1) := by decide +kernel
theorem eJPre_checkIndex_6 : decode prog_14_method_11_code 6 = .ok (.if_icmp .lt 10, 3) := by decide +kernel
theorem eJPre_checkIndex_16 : decode prog_14_method_11_code 16 = .ok (.iload_n 0, 1) := by decide +kernel
theorem eJPre_checkIndex_17 : decode prog_14_method_11_code 17 = .ok (.ireturn, 1) := by decide +kernel
theorem eT_rotaNamed_0 : decode prog_4_method_8_code 0 = .ok (.aload_n 0, 1) := by decide +kernel
theorem eT_rotaNamed_1 : decode prog_4_method_8_code 1 = .ok (.ldc 86, 2) := by decide +kernel
theorem eT_rotaNamed_3 : decode prog_4_method_8_code 3 = .ok (.invokevirtual 70, 3) := by decide +kernel
theorem eT_rotaNamed_6 : decode prog_4_method_8_code 6 = .ok (.ifCond .eq 5, 3) := by decide +kernel
theorem eT_rotaNamed_9 : decode prog_4_method_8_code 9 = .ok (.iconst 0, 1) := by decide +kernel
theorem eT_rotaNamed_10 : decode prog_4_method_8_code 10 = .ok (.ireturn, 1) := by decide +kernel
theorem eT_rotaNamed_11 : decode prog_4_method_8_code 11 = .ok (.aload_n 0, 1) := by decide +kernel
theorem eT_rotaNamed_12 : decode prog_4_method_8_code 12 = .ok (.ldc 88, 2) := by decide +kernel
theorem eT_rotaNamed_14 : decode prog_4_method_8_code 14 = .ok (.invokevirtual 70, 3) := by decide +kernel
theorem eT_rotaNamed_17 : decode prog_4_method_8_code 17 = .ok (.ifCond .eq 5, 3) := by decide +kernel
theorem eT_rotaNamed_20 : decode prog_4_method_8_code 20 = .ok (.iconst 1, 1) := by decide +kernel
theorem eT_rotaNamed_21 : decode prog_4_method_8_code 21 = .ok (.ireturn, 1) := by decide +kernel
theorem eT_rotaNamed_22 : decode prog_4_method_8_code 22 = .ok (.aload_n 0, 1) := by decide +kernel
theorem eT_rotaNamed_23 : decode prog_4_method_8_code 23 = .ok (.ldc 90, 2) := by decide +kernel
theorem eT_rotaNamed_25 : decode prog_4_method_8_code 25 = .ok (.invokevirtual 70, 3) := by decide +kernel
theorem eT_rotaNamed_28 : decode prog_4_method_8_code 28 = .ok (.ifCond .eq 7, 3) := by decide +kernel
theorem eT_rotaNamed_31 : decode prog_4_method_8_code 31 = .ok (.iconst 2, 1) := by decide +kernel
theorem eT_rotaNamed_32 : decode prog_4_method_8_code 32 = .ok (.goto 4, 3) := by decide +kernel
theorem eT_rotaNamed_35 : decode prog_4_method_8_code 35 = .ok (.iconst (-1), 1) := by decide +kernel
theorem eT_rotaNamed_36 : decode prog_4_method_8_code 36 = .ok (.ireturn, 1) := by decide +kernel
theorem eT_isNumber_0 : decode prog_4_method_11_code 0 = .ok (.aload_n 0, 1) := by decide +kernel
theorem eT_isNumber_1 : decode prog_4_method_11_code 1 = .ok (.getfield 25, 3) := by decide +kernel
theorem eT_isNumber_4 : decode prog_4_method_11_code 4 = .ok (.iconst 3, 1) := by decide +kernel
theorem eT_isNumber_5 : decode prog_4_method_11_code 5 = .ok (.if_icmp .ne 19, 3) := by decide +kernel
theorem eT_isNumber_8 : decode prog_4_method_11_code 8 = .ok (.aload_n 0, 1) := by decide +kernel
theorem eT_isNumber_9 : decode prog_4_method_11_code 9 = .ok (.getfield 28, 3) := by decide +kernel
theorem eT_isNumber_12 : decode prog_4_method_11_code 12 = .ok (.iload_n 1, 1) := by decide +kernel
theorem eT_isNumber_13 : decode prog_4_method_11_code 13 = .ok (.iload_n 2, 1) := by decide +kernel
theorem eT_isNumber_14 : decode prog_4_method_11_code 14 = .ok (.invokestatic 117, 3) := by decide +kernel
theorem eT_isNumber_17 : decode prog_4_method_11_code 17 = .ok (.ifCond .eq 7, 3) := by decide +kernel
theorem eT_isNumber_20 : decode prog_4_method_11_code 20 = .ok (.iconst 1, 1) := by decide +kernel
theorem eT_isNumber_21 : decode prog_4_method_11_code 21 = .ok (.goto 4, 3) := by decide +kernel
theorem eT_isNumber_24 : decode prog_4_method_11_code 24 = .ok (.iconst 0, 1) := by decide +kernel
theorem eT_isNumber_25 : decode prog_4_method_11_code 25 = .ok (.ireturn, 1) := by decide +kernel
theorem eT_takesWall_0 : decode prog_4_method_6_code 0 = .ok (.aload_n 1, 1) := by decide +kernel
theorem eT_takesWall_1 : decode prog_4_method_6_code 1 = .ok (.invokevirtual 64, 3) := by decide +kernel
theorem eT_takesWall_4 : decode prog_4_method_6_code 4 = .ok (.ifCond .eq 5, 3) := by decide +kernel
theorem eT_takesWall_7 : decode prog_4_method_6_code 7 = .ok (.iconst 0, 1) := by decide +kernel
theorem eT_takesWall_8 : decode prog_4_method_6_code 8 = .ok (.ireturn, 1) := by decide +kernel
theorem eT_takesWall_9 : decode prog_4_method_6_code 9 = .ok (.aload_n 0, 1) := by decide +kernel
theorem eT_takesWall_10 : decode prog_4_method_6_code 10 = .ok (.invokevirtual 31, 3) := by decide +kernel
theorem eT_takesWall_13 : decode prog_4_method_6_code 13 = .ok (.aload_n 0, 1) := by decide +kernel
theorem eT_takesWall_14 : decode prog_4_method_6_code 14 = .ok (.ldc 68, 2) := by decide +kernel
theorem eT_takesWall_16 : decode prog_4_method_6_code 16 = .ok (.invokevirtual 70, 3) := by decide +kernel
theorem eT_takesWall_19 : decode prog_4_method_6_code 19 = .ok (.ifCond .ne 5, 3) := by decide +kernel
theorem eT_takesWall_22 : decode prog_4_method_6_code 22 = .ok (.iconst 0, 1) := by decide +kernel
theorem eT_takesWall_23 : decode prog_4_method_6_code 23 = .ok (.ireturn, 1) := by decide +kernel
theorem eT_takesWall_24 : decode prog_4_method_6_code 24 = .ok (.aload_n 0, 1) := by decide +kernel
theorem eT_takesWall_25 : decode prog_4_method_6_code 25 = .ok (.invokevirtual 31, 3) := by decide +kernel
theorem eT_takesWall_28 : decode prog_4_method_6_code 28 = .ok (.aload_n 0, 1) := by decide +kernel
theorem eT_takesWall_29 : decode prog_4_method_6_code 29 = .ok (.iconst 0, 1) := by decide +kernel
theorem eT_takesWall_30 : decode prog_4_method_6_code 30 = .ok (.bipush 9, 2) := by decide +kernel
theorem eT_takesWall_32 : decode prog_4_method_6_code 32 = .ok (.invokevirtual 55, 3) := by decide +kernel
theorem eT_takesWall_35 : decode prog_4_method_6_code 35 = .ok (.ifCond .ne 5, 3) := by decide +kernel
theorem eT_takesWall_38 : decode prog_4_method_6_code 38 = .ok (.iconst 0, 1) := by decide +kernel
theorem eT_takesWall_39 : decode prog_4_method_6_code 39 = .ok (.ireturn, 1) := by decide +kernel
theorem eT_takesWall_40 : decode prog_4_method_6_code 40 = .ok (.aload_n 0, 1) := by decide +kernel
theorem eT_takesWall_41 : decode prog_4_method_6_code 41 = .ok (.getfield 28, 3) := by decide +kernel
theorem eT_takesWall_44 : decode prog_4_method_6_code 44 = .ok (.istore_n 3, 1) := by decide +kernel
theorem eT_takesWall_45 : decode prog_4_method_6_code 45 = .ok (.aload_n 0, 1) := by decide +kernel
theorem eT_takesWall_46 : decode prog_4_method_6_code 46 = .ok (.invokevirtual 31, 3) := by decide +kernel
theorem eT_takesWall_49 : decode prog_4_method_6_code 49 = .ok (.iload_n 3, 1) := by decide +kernel
theorem eT_takesWall_50 : decode prog_4_method_6_code 50 = .ok (.istore 4, 2) := by decide +kernel
theorem eT_takesWall_52 : decode prog_4_method_6_code 52 = .ok (.aload_n 0, 1) := by decide +kernel
theorem eT_takesWall_53 : decode prog_4_method_6_code 53 = .ok (.ldc 74, 2) := by decide +kernel
theorem eT_takesWall_55 : decode prog_4_method_6_code 55 = .ok (.invokevirtual 70, 3) := by decide +kernel
theorem eT_takesWall_58 : decode prog_4_method_6_code 58 = .ok (.ifCond .eq 29, 3) := by decide +kernel
theorem eT_takesWall_61 : decode prog_4_method_6_code 61 = .ok (.aload_n 0, 1) := by decide +kernel
theorem eT_takesWall_62 : decode prog_4_method_6_code 62 = .ok (.invokevirtual 31, 3) := by decide +kernel
theorem eT_takesWall_65 : decode prog_4_method_6_code 65 = .ok (.aload_n 0, 1) := by decide +kernel
theorem eT_takesWall_66 : decode prog_4_method_6_code 66 = .ok (.iconst 0, 1) := by decide +kernel
theorem eT_takesWall_67 : decode prog_4_method_6_code 67 = .ok (.bipush 9, 2) := by decide +kernel
theorem eT_takesWall_69 : decode prog_4_method_6_code 69 = .ok (.invokevirtual 55, 3) := by decide +kernel
theorem eT_takesWall_72 : decode prog_4_method_6_code 72 = .ok (.ifCond .ne 5, 3) := by decide +kernel
theorem eT_takesWall_75 : decode prog_4_method_6_code 75 = .ok (.iconst 0, 1) := by decide +kernel
theorem eT_takesWall_76 : decode prog_4_method_6_code 76 = .ok (.ireturn, 1) := by decide +kernel
theorem eT_takesWall_77 : decode prog_4_method_6_code 77 = .ok (.aload_n 0, 1) := by decide +kernel
theorem eT_takesWall_78 : decode prog_4_method_6_code 78 = .ok (.getfield 28, 3) := by decide +kernel
theorem eT_takesWall_81 : decode prog_4_method_6_code 81 = .ok (.istore 4, 2) := by decide +kernel
theorem eT_takesWall_83 : decode prog_4_method_6_code 83 = .ok (.aload_n 0, 1) := by decide +kernel
theorem eT_takesWall_84 : decode prog_4_method_6_code 84 = .ok (.invokevirtual 31, 3) := by decide +kernel
theorem eT_takesWall_87 : decode prog_4_method_6_code 87 = .ok (.iconst 0, 1) := by decide +kernel
theorem eT_takesWall_88 : decode prog_4_method_6_code 88 = .ok (.istore 5, 2) := by decide +kernel
theorem eT_takesWall_90 : decode prog_4_method_6_code 90 = .ok (.aload_n 0, 1) := by decide +kernel
theorem eT_takesWall_91 : decode prog_4_method_6_code 91 = .ok (.ldc 76, 2) := by decide +kernel
theorem eT_takesWall_93 : decode prog_4_method_6_code 93 = .ok (.invokevirtual 70, 3) := by decide +kernel
theorem eT_takesWall_96 : decode prog_4_method_6_code 96 = .ok (.ifCond .eq 28, 3) := by decide +kernel
theorem eT_takesWall_99 : decode prog_4_method_6_code 99 = .ok (.aload_n 0, 1) := by decide +kernel
theorem eT_takesWall_100 : decode prog_4_method_6_code 100 = .ok (.invokevirtual 31, 3) := by decide +kernel
theorem eT_takesWall_103 : decode prog_4_method_6_code 103 = .ok (.aload_n 0, 1) := by decide +kernel
theorem eT_takesWall_104 : decode prog_4_method_6_code 104 = .ok (.iconst 0, 1) := by decide +kernel
theorem eT_takesWall_105 : decode prog_4_method_6_code 105 = .ok (.iconst 3, 1) := by decide +kernel
theorem eT_takesWall_106 : decode prog_4_method_6_code 106 = .ok (.invokevirtual 55, 3) := by decide +kernel
theorem eT_takesWall_109 : decode prog_4_method_6_code 109 = .ok (.ifCond .ne 5, 3) := by decide +kernel
theorem eT_takesWall_112 : decode prog_4_method_6_code 112 = .ok (.iconst 0, 1) := by decide +kernel
theorem eT_takesWall_113 : decode prog_4_method_6_code 113 = .ok (.ireturn, 1) := by decide +kernel
theorem eT_takesWall_114 : decode prog_4_method_6_code 114 = .ok (.aload_n 0, 1) := by decide +kernel
theorem eT_takesWall_115 : decode prog_4_method_6_code 115 = .ok (.getfield 28, 3) := by decide +kernel
theorem eT_takesWall_118 : decode prog_4_method_6_code 118 = .ok (.istore 5, 2) := by decide +kernel
theorem eT_takesWall_120 : decode prog_4_method_6_code 120 = .ok (.aload_n 0, 1) := by decide +kernel
theorem eT_takesWall_121 : decode prog_4_method_6_code 121 = .ok (.invokevirtual 31, 3) := by decide +kernel
theorem eT_takesWall_124 : decode prog_4_method_6_code 124 = .ok (.aload_n 1, 1) := by decide +kernel
theorem eT_takesWall_125 : decode prog_4_method_6_code 125 = .ok (.iload_n 2, 1) := by decide +kernel
theorem eT_takesWall_126 : decode prog_4_method_6_code 126 = .ok (.iload_n 3, 1) := by decide +kernel
theorem eT_takesWall_127 : decode prog_4_method_6_code 127 = .ok (.iload 4, 2) := by decide +kernel
theorem eT_takesWall_129 : decode prog_4_method_6_code 129 = .ok (.iload 5, 2) := by decide +kernel
theorem eT_takesWall_131 : decode prog_4_method_6_code 131 = .ok (.invokevirtual 78, 3) := by decide +kernel
theorem eT_takesWall_134 : decode prog_4_method_6_code 134 = .ok (.pop, 1) := by decide +kernel
theorem eT_takesWall_135 : decode prog_4_method_6_code 135 = .ok (.iconst 1, 1) := by decide +kernel
theorem eT_takesWall_136 : decode prog_4_method_6_code 136 = .ok (.ireturn, 1) := by decide +kernel
theorem eW_sheet_0 : decode prog_1_method_28_code 0 = .ok (.iload_n 1, 1) := by decide +kernel
theorem eW_sheet_1 : decode prog_1_method_28_code 1 = .ok (.invokestatic 203, 3) := by decide +kernel
theorem eW_sheet_4 : decode prog_1_method_28_code 4 = .ok (.ifCond .eq 25, 3) := by decide +kernel
theorem eW_sheet_7 : decode prog_1_method_28_code 7 = .ok (.iload_n 2, 1) := by decide +kernel
theorem eW_sheet_8 : decode prog_1_method_28_code 8 = .ok (.ifCond .eq 28, 3) := by decide +kernel
theorem eW_sheet_11 : decode prog_1_method_28_code 11 = .ok (.iload_n 2, 1) := by decide +kernel
theorem eW_sheet_12 : decode prog_1_method_28_code 12 = .ok (.bipush 8, 2) := by decide +kernel
theorem eW_sheet_14 : decode prog_1_method_28_code 14 = .ok (.if_icmp .eq 22, 3) := by decide +kernel
theorem eW_sheet_17 : decode prog_1_method_28_code 17 = .ok (.iload_n 2, 1) := by decide +kernel
theorem eW_sheet_18 : decode prog_1_method_28_code 18 = .ok (.bipush 16, 2) := by decide +kernel
theorem eW_sheet_20 : decode prog_1_method_28_code 20 = .ok (.if_icmp .eq 16, 3) := by decide +kernel
theorem eW_sheet_23 : decode prog_1_method_28_code 23 = .ok (.iload_n 2, 1) := by decide +kernel
theorem eW_sheet_24 : decode prog_1_method_28_code 24 = .ok (.bipush 64, 2) := by decide +kernel
theorem eW_sheet_26 : decode prog_1_method_28_code 26 = .ok (.if_icmp .eq 10, 3) := by decide +kernel
theorem eW_sheet_29 : decode prog_1_method_28_code 29 = .ok (.aload_n 0, 1) := by decide +kernel
theorem eW_sheet_30 : decode prog_1_method_28_code 30 = .ok (.ldc 51, 2) := by decide +kernel
theorem eW_sheet_32 : decode prog_1_method_28_code 32 = .ok (.invokevirtual 52, 3) := by decide +kernel
theorem eW_sheet_35 : decode prog_1_method_28_code 35 = .ok (.ireturn, 1) := by decide +kernel
theorem eW_sheet_36 : decode prog_1_method_28_code 36 = .ok (.iload_n 3, 1) := by decide +kernel
theorem eW_sheet_37 : decode prog_1_method_28_code 37 = .ok (.ifCond .ge 10, 3) := by decide +kernel
theorem eW_sheet_40 : decode prog_1_method_28_code 40 = .ok (.aload_n 0, 1) := by decide +kernel
theorem eW_sheet_41 : decode prog_1_method_28_code 41 = .ok (.ldc 206, 2) := by decide +kernel
theorem eW_sheet_43 : decode prog_1_method_28_code 43 = .ok (.invokevirtual 52, 3) := by decide +kernel
theorem eW_sheet_46 : decode prog_1_method_28_code 46 = .ok (.ireturn, 1) := by decide +kernel
theorem eW_sheet_47 : decode prog_1_method_28_code 47 = .ok (.iload_n 3, 1) := by decide +kernel
theorem eW_sheet_48 : decode prog_1_method_28_code 48 = .ok (.bipush 40, 2) := by decide +kernel
theorem eW_sheet_50 : decode prog_1_method_28_code 50 = .ok (.if_icmp .le 10, 3) := by decide +kernel
theorem eW_sheet_53 : decode prog_1_method_28_code 53 = .ok (.aload_n 0, 1) := by decide +kernel
theorem eW_sheet_54 : decode prog_1_method_28_code 54 = .ok (.ldc 51, 2) := by decide +kernel
theorem eW_sheet_56 : decode prog_1_method_28_code 56 = .ok (.invokevirtual 52, 3) := by decide +kernel
theorem eW_sheet_59 : decode prog_1_method_28_code 59 = .ok (.ireturn, 1) := by decide +kernel
theorem eW_sheet_60 : decode prog_1_method_28_code 60 = .ok (.aload_n 0, 1) := by decide +kernel
theorem eW_sheet_61 : decode prog_1_method_28_code 61 = .ok (.getfield 35, 3) := by decide +kernel
theorem eW_sheet_64 : decode prog_1_method_28_code 64 = .ok (.iload_n 1, 1) := by decide +kernel
theorem eW_sheet_65 : decode prog_1_method_28_code 65 = .ok (.aaload, 1) := by decide +kernel
theorem eW_sheet_66 : decode prog_1_method_28_code 66 = .ok (.iload_n 2, 1) := by decide +kernel
theorem eW_sheet_67 : decode prog_1_method_28_code 67 = .ok (.iload_n 3, 1) := by decide +kernel
theorem eW_sheet_68 : decode prog_1_method_28_code 68 = .ok (.invokevirtual 207, 3) := by decide +kernel
theorem eW_sheet_71 : decode prog_1_method_28_code 71 = .ok (.ireturn, 1) := by decide +kernel
theorem eW_isSheet_0 : decode prog_1_method_51_code 0 = .ok (.iload_n 0, 1) := by decide +kernel
theorem eW_isSheet_1 : decode prog_1_method_51_code 1 = .ok (.iconst 0, 1) := by decide +kernel
theorem eW_isSheet_2 : decode prog_1_method_51_code 2 = .ok (.iconst 3, 1) := by decide +kernel
theorem eW_isSheet_3 : decode prog_1_method_51_code 3 = .ok (.invokestatic 82, 3) := by decide +kernel
theorem eW_isSheet_6 : decode prog_1_method_51_code 6 = .ok (.ireturn, 1) := by decide +kernel
theorem eS_renew_0 : decode prog_3_method_3_code 0 = .ok (.aload_n 0, 1) := by decide +kernel
theorem eS_renew_1 : decode prog_3_method_3_code 1 = .ok (.iload_n 1, 1) := by decide +kernel
theorem eS_renew_2 : decode prog_3_method_3_code 2 = .ok (.putfield 9, 3) := by decide +kernel
theorem eS_renew_5 : decode prog_3_method_3_code 5 = .ok (.aload_n 0, 1) := by decide +kernel
theorem eS_renew_6 : decode prog_3_method_3_code 6 = .ok (.iload_n 1, 1) := by decide +kernel
theorem eS_renew_7 : decode prog_3_method_3_code 7 = .ok (.ifCond .ne 7, 3) := by decide +kernel
theorem eS_renew_10 : decode prog_3_method_3_code 10 = .ok (.iconst 0, 1) := by decide +kernel
theorem eS_renew_11 : decode prog_3_method_3_code 11 = .ok (.goto 4, 3) := by decide +kernel
theorem eS_renew_14 : decode prog_3_method_3_code 14 = .ok (.iload_n 2, 1) := by decide +kernel
theorem eS_renew_15 : decode prog_3_method_3_code 15 = .ok (.putfield 15, 3) := by decide +kernel
theorem eS_renew_18 : decode prog_3_method_3_code 18 = .ok (.aload_n 0, 1) := by decide +kernel
theorem eS_renew_19 : decode prog_3_method_3_code 19 = .ok (.getfield 18, 3) := by decide +kernel
theorem eS_renew_22 : decode prog_3_method_3_code 22 = .ok (.lconst 0, 1) := by decide +kernel
theorem eS_renew_23 : decode prog_3_method_3_code 23 = .ok (.invokestatic 22, 3) := by decide +kernel
theorem eS_renew_26 : decode prog_3_method_3_code 26 = .ok (.aload_n 0, 1) := by decide +kernel
theorem eS_renew_27 : decode prog_3_method_3_code 27 = .ok (.getfield 15, 3) := by decide +kernel
theorem eS_renew_30 : decode prog_3_method_3_code 30 = .ok (.ireturn, 1) := by decide +kernel
theorem eJArr_fill_0 : decode prog_13_method_101_code 0 = .ok (.iconst 0, 1) := by decide +kernel
theorem eJArr_fill_1 : decode prog_13_method_101_code 1 = .ok (.istore_n 3, 1) := by decide +kernel
theorem eJArr_fill_2 : decode prog_13_method_101_code 2 = .ok (.aload_n 0, 1) := by decide +kernel
theorem eJArr_fill_3 : decode prog_13_method_101_code 3 = .ok (.arraylength, 1) := by decide +kernel
theorem eJArr_fill_4 : decode prog_13_method_101_code 4 = .ok (.istore 4, 2) := by decide +kernel
theorem eJArr_fill_6 : decode prog_13_method_101_code 6 = .ok (.iload_n 3, 1) := by decide +kernel
theorem eJArr_fill_7 : decode prog_13_method_101_code 7 = .ok (.iload 4, 2) := by decide +kernel
theorem eJArr_fill_9 : decode prog_13_method_101_code 9 = .ok (.if_icmp .ge 13, 3) := by decide +kernel
theorem eJArr_fill_12 : decode prog_13_method_101_code 12 = .ok (.aload_n 0, 1) := by decide +kernel
theorem eJArr_fill_13 : decode prog_13_method_101_code 13 = .ok (.iload_n 3, 1) := by decide +kernel
theorem eJArr_fill_14 : decode prog_13_method_101_code 14 = .ok (.lload_n 1, 1) := by decide +kernel
theorem eJArr_fill_15 : decode prog_13_method_101_code 15 = .ok (.lastore, 1) := by decide +kernel
theorem eJArr_fill_16 : decode prog_13_method_101_code 16 = .ok (.iinc 3 1, 3) := by decide +kernel
theorem eJArr_fill_19 : decode prog_13_method_101_code 19 = .ok (.goto (-13), 3) := by decide +kernel
theorem eJArr_fill_22 : decode prog_13_method_101_code 22 = .ok (.return_, 1) := by decide +kernel
theorem eW_write_0 : decode prog_1_method_29_code 0 = .ok (.iload_n 1, 1) := by decide +kernel
theorem eW_write_1 : decode prog_1_method_29_code 1 = .ok (.invokestatic 203, 3) := by decide +kernel
theorem eW_write_4 : decode prog_1_method_29_code 4 = .ok (.ifCond .ne 11, 3) := by decide +kernel
theorem eW_write_7 : decode prog_1_method_29_code 7 = .ok (.aload_n 0, 1) := by decide +kernel
theorem eW_write_8 : decode prog_1_method_29_code 8 = .ok (.ldc 51, 2) := by decide +kernel
theorem eW_write_10 : decode prog_1_method_29_code 10 = .ok (.invokevirtual 52, 3) := by decide +kernel
theorem eW_write_13 : decode prog_1_method_29_code 13 = .ok (.i2l, 1) := by decide +kernel
theorem eW_write_14 : decode prog_1_method_29_code 14 = .ok (.lreturn, 1) := by decide +kernel
theorem eW_write_15 : decode prog_1_method_29_code 15 = .ok (.aload_n 0, 1) := by decide +kernel
theorem eW_write_16 : decode prog_1_method_29_code 16 = .ok (.getfield 35, 3) := by decide +kernel
theorem eW_write_19 : decode prog_1_method_29_code 19 = .ok (.iload_n 1, 1) := by decide +kernel
theorem eW_write_20 : decode prog_1_method_29_code 20 = .ok (.aaload, 1) := by decide +kernel
theorem eW_write_21 : decode prog_1_method_29_code 21 = .ok (.invokevirtual 210, 3) := by decide +kernel
theorem eW_write_24 : decode prog_1_method_29_code 24 = .ok (.ifCond .eq 11, 3) := by decide +kernel
theorem eW_write_27 : decode prog_1_method_29_code 27 = .ok (.aload_n 0, 1) := by decide +kernel
theorem eW_write_28 : decode prog_1_method_29_code 28 = .ok (.ldc 213, 2) := by decide +kernel
theorem eW_write_30 : decode prog_1_method_29_code 30 = .ok (.invokevirtual 52, 3) := by decide +kernel
theorem eW_write_33 : decode prog_1_method_29_code 33 = .ok (.i2l, 1) := by decide +kernel
theorem eW_write_34 : decode prog_1_method_29_code 34 = .ok (.lreturn, 1) := by decide +kernel
theorem eW_write_35 : decode prog_1_method_29_code 35 = .ok (.iload_n 2, 1) := by decide +kernel
theorem eW_write_36 : decode prog_1_method_29_code 36 = .ok (.iconst 0, 1) := by decide +kernel
theorem eW_write_37 : decode prog_1_method_29_code 37 = .ok (.aload_n 0, 1) := by decide +kernel
theorem eW_write_38 : decode prog_1_method_29_code 38 = .ok (.getfield 35, 3) := by decide +kernel
theorem eW_write_41 : decode prog_1_method_29_code 41 = .ok (.iload_n 1, 1) := by decide +kernel
theorem eW_write_42 : decode prog_1_method_29_code 42 = .ok (.aaload, 1) := by decide +kernel
theorem eW_write_43 : decode prog_1_method_29_code 43 = .ok (.getfield 214, 3) := by decide +kernel
theorem eW_write_46 : decode prog_1_method_29_code 46 = .ok (.iconst 1, 1) := by decide +kernel
theorem eW_write_47 : decode prog_1_method_29_code 47 = .ok (.isub, 1) := by decide +kernel
theorem eW_write_48 : decode prog_1_method_29_code 48 = .ok (.invokestatic 82, 3) := by decide +kernel
theorem eW_write_51 : decode prog_1_method_29_code 51 = .ok (.ifCond .ne 11, 3) := by decide +kernel
theorem eW_write_54 : decode prog_1_method_29_code 54 = .ok (.aload_n 0, 1) := by decide +kernel
theorem eW_write_55 : decode prog_1_method_29_code 55 = .ok (.ldc 51, 2) := by decide +kernel
theorem eW_write_57 : decode prog_1_method_29_code 57 = .ok (.invokevirtual 52, 3) := by decide +kernel
theorem eW_write_60 : decode prog_1_method_29_code 60 = .ok (.i2l, 1) := by decide +kernel
theorem eW_write_61 : decode prog_1_method_29_code 61 = .ok (.lreturn, 1) := by decide +kernel
theorem eW_write_62 : decode prog_1_method_29_code 62 = .ok (.aload_n 0, 1) := by decide +kernel
theorem eW_write_63 : decode prog_1_method_29_code 63 = .ok (.getfield 35, 3) := by decide +kernel
theorem eW_write_66 : decode prog_1_method_29_code 66 = .ok (.iload_n 1, 1) := by decide +kernel
theorem eW_write_67 : decode prog_1_method_29_code 67 = .ok (.aaload, 1) := by decide +kernel
theorem eW_write_68 : decode prog_1_method_29_code 68 = .ok (.getfield 215, 3) := by decide +kernel
theorem eW_write_71 : decode prog_1_method_29_code 71 = .ok (.iload_n 2, 1) := by decide +kernel
theorem eW_write_72 : decode prog_1_method_29_code 72 = .ok (.laload, 1) := by decide +kernel
theorem eW_write_73 : decode prog_1_method_29_code 73 = .ok (.lstore 5, 2) := by decide +kernel
theorem eW_write_75 : decode prog_1_method_29_code 75 = .ok (.aload_n 0, 1) := by decide +kernel
theorem eW_write_76 : decode prog_1_method_29_code 76 = .ok (.getfield 35, 3) := by decide +kernel
theorem eW_write_79 : decode prog_1_method_29_code 79 = .ok (.iload_n 1, 1) := by decide +kernel
theorem eW_write_80 : decode prog_1_method_29_code 80 = .ok (.aaload, 1) := by decide +kernel
theorem eW_write_81 : decode prog_1_method_29_code 81 = .ok (.iload_n 2, 1) := by decide +kernel
theorem eW_write_82 : decode prog_1_method_29_code 82 = .ok (.lload_n 3, 1) := by decide +kernel
theorem eW_write_83 : decode prog_1_method_29_code 83 = .ok (.invokevirtual 219, 3) := by decide +kernel
theorem eW_write_86 : decode prog_1_method_29_code 86 = .ok (.lload 5, 2) := by decide +kernel
theorem eW_write_88 : decode prog_1_method_29_code 88 = .ok (.lreturn, 1) := by decide +kernel
theorem eS_isMissing_0 : decode prog_3_method_2_code 0 = .ok (.aload_n 0, 1) := by decide +kernel
theorem eS_isMissing_1 : decode prog_3_method_2_code 1 = .ok (.getfield 9, 3) := by decide +kernel
theorem eS_isMissing_4 : decode prog_3_method_2_code 4 = .ok (.ifCond .ne 7, 3) := by decide +kernel
theorem eS_isMissing_7 : decode prog_3_method_2_code 7 = .ok (.iconst 1, 1) := by decide +kernel
theorem eS_isMissing_8 : decode prog_3_method_2_code 8 = .ok (.goto 4, 3) := by decide +kernel
theorem eS_isMissing_11 : decode prog_3_method_2_code 11 = .ok (.iconst 0, 1) := by decide +kernel
theorem eS_isMissing_12 : decode prog_3_method_2_code 12 = .ok (.ireturn, 1) := by decide +kernel
theorem eS_put_0 : decode prog_3_method_4_code 0 = .ok (.aload_n 0, 1) := by decide +kernel
theorem eS_put_1 : decode prog_3_method_4_code 1 = .ok (.getfield 9, 3) := by decide +kernel
theorem eS_put_4 : decode prog_3_method_4_code 4 = .ok (.bipush 8, 2) := by decide +kernel
theorem eS_put_6 : decode prog_3_method_4_code 6 = .ok (.if_icmp .ne 16, 3) := by decide +kernel
theorem eS_put_9 : decode prog_3_method_4_code 9 = .ok (.aload_n 0, 1) := by decide +kernel
theorem eS_put_10 : decode prog_3_method_4_code 10 = .ok (.getfield 18, 3) := by decide +kernel
theorem eS_put_13 : decode prog_3_method_4_code 13 = .ok (.iload_n 1, 1) := by decide +kernel
theorem eS_put_14 : decode prog_3_method_4_code 14 = .ok (.lload_n 2, 1) := by decide +kernel
theorem eS_put_15 : decode prog_3_method_4_code 15 = .ok (.l2i, 1) := by decide +kernel
theorem eS_put_16 : decode prog_3_method_4_code 16 = .ok (.i2b, 1) := by decide +kernel
theorem eS_put_17 : decode prog_3_method_4_code 17 = .ok (.i2l, 1) := by decide +kernel
theorem eS_put_18 : decode prog_3_method_4_code 18 = .ok (.lastore, 1) := by decide +kernel
theorem eS_put_19 : decode prog_3_method_4_code 19 = .ok (.goto 26, 3) := by decide +kernel
theorem eS_put_22 : decode prog_3_method_4_code 22 = .ok (.aload_n 0, 1) := by decide +kernel
theorem eS_put_23 : decode prog_3_method_4_code 23 = .ok (.getfield 18, 3) := by decide +kernel
theorem eS_put_26 : decode prog_3_method_4_code 26 = .ok (.iload_n 1, 1) := by decide +kernel
theorem eS_put_27 : decode prog_3_method_4_code 27 = .ok (.aload_n 0, 1) := by decide +kernel
theorem eS_put_28 : decode prog_3_method_4_code 28 = .ok (.getfield 9, 3) := by decide +kernel
theorem eS_put_31 : decode prog_3_method_4_code 31 = .ok (.bipush 16, 2) := by decide +kernel
theorem eS_put_33 : decode prog_3_method_4_code 33 = .ok (.if_icmp .ne 10, 3) := by decide +kernel
theorem eS_put_36 : decode prog_3_method_4_code 36 = .ok (.lload_n 2, 1) := by decide +kernel
theorem eS_put_37 : decode prog_3_method_4_code 37 = .ok (.l2i, 1) := by decide +kernel
theorem eS_put_38 : decode prog_3_method_4_code 38 = .ok (.i2s, 1) := by decide +kernel
theorem eS_put_39 : decode prog_3_method_4_code 39 = .ok (.i2l, 1) := by decide +kernel
theorem eS_put_40 : decode prog_3_method_4_code 40 = .ok (.goto 4, 3) := by decide +kernel
theorem eS_put_43 : decode prog_3_method_4_code 43 = .ok (.lload_n 2, 1) := by decide +kernel
theorem eS_put_44 : decode prog_3_method_4_code 44 = .ok (.lastore, 1) := by decide +kernel
theorem eS_put_45 : decode prog_3_method_4_code 45 = .ok (.return_, 1) := by decide +kernel
theorem eW_copy_0 : decode prog_1_method_30_code 0 = .ok (.iload_n 1, 1) := by decide +kernel
theorem eW_copy_1 : decode prog_1_method_30_code 1 = .ok (.invokestatic 203, 3) := by decide +kernel
theorem eW_copy_4 : decode prog_1_method_30_code 4 = .ok (.ifCond .eq 10, 3) := by decide +kernel
theorem eW_copy_7 : decode prog_1_method_30_code 7 = .ok (.iload_n 3, 1) := by decide +kernel
theorem eW_copy_8 : decode prog_1_method_30_code 8 = .ok (.invokestatic 203, 3) := by decide +kernel
theorem eW_copy_11 : decode prog_1_method_30_code 11 = .ok (.ifCond .ne 10, 3) := by decide +kernel
theorem eW_copy_14 : decode prog_1_method_30_code 14 = .ok (.aload_n 0, 1) := by decide +kernel
theorem eW_copy_15 : decode prog_1_method_30_code 15 = .ok (.ldc 51, 2) := by decide +kernel
theorem eW_copy_17 : decode prog_1_method_30_code 17 = .ok (.invokevirtual 52, 3) := by decide +kernel
theorem eW_copy_20 : decode prog_1_method_30_code 20 = .ok (.ireturn, 1) := by decide +kernel
theorem eW_copy_21 : decode prog_1_method_30_code 21 = .ok (.aload_n 0, 1) := by decide +kernel
theorem eW_copy_22 : decode prog_1_method_30_code 22 = .ok (.getfield 35, 3) := by decide +kernel
theorem eW_copy_25 : decode prog_1_method_30_code 25 = .ok (.iload_n 1, 1) := by decide +kernel
theorem eW_copy_26 : decode prog_1_method_30_code 26 = .ok (.aaload, 1) := by decide +kernel
theorem eW_copy_27 : decode prog_1_method_30_code 27 = .ok (.astore 6, 2) := by decide +kernel
theorem eW_copy_29 : decode prog_1_method_30_code 29 = .ok (.aload_n 0, 1) := by decide +kernel
theorem eW_copy_30 : decode prog_1_method_30_code 30 = .ok (.getfield 35, 3) := by decide +kernel
theorem eW_copy_33 : decode prog_1_method_30_code 33 = .ok (.iload_n 3, 1) := by decide +kernel
theorem eW_copy_34 : decode prog_1_method_30_code 34 = .ok (.aaload, 1) := by decide +kernel
theorem eW_copy_35 : decode prog_1_method_30_code 35 = .ok (.astore 7, 2) := by decide +kernel
theorem eW_copy_37 : decode prog_1_method_30_code 37 = .ok (.aload 6, 2) := by decide +kernel
theorem eW_copy_39 : decode prog_1_method_30_code 39 = .ok (.invokevirtual 210, 3) := by decide +kernel
theorem eW_copy_42 : decode prog_1_method_30_code 42 = .ok (.ifCond .ne 11, 3) := by decide +kernel
theorem eW_copy_45 : decode prog_1_method_30_code 45 = .ok (.aload 7, 2) := by decide +kernel
theorem eW_copy_47 : decode prog_1_method_30_code 47 = .ok (.invokevirtual 210, 3) := by decide +kernel
theorem eW_copy_50 : decode prog_1_method_30_code 50 = .ok (.ifCond .eq 10, 3) := by decide +kernel
theorem eW_copy_53 : decode prog_1_method_30_code 53 = .ok (.aload_n 0, 1) := by decide +kernel
theorem eW_copy_54 : decode prog_1_method_30_code 54 = .ok (.ldc 213, 2) := by decide +kernel
theorem eW_copy_56 : decode prog_1_method_30_code 56 = .ok (.invokevirtual 52, 3) := by decide +kernel
theorem eW_copy_59 : decode prog_1_method_30_code 59 = .ok (.ireturn, 1) := by decide +kernel
theorem eW_copy_60 : decode prog_1_method_30_code 60 = .ok (.aload 6, 2) := by decide +kernel
theorem eW_copy_62 : decode prog_1_method_30_code 62 = .ok (.getfield 223, 3) := by decide +kernel
theorem eW_copy_65 : decode prog_1_method_30_code 65 = .ok (.aload 7, 2) := by decide +kernel
theorem eW_copy_67 : decode prog_1_method_30_code 67 = .ok (.getfield 223, 3) := by decide +kernel
theorem eW_copy_70 : decode prog_1_method_30_code 70 = .ok (.if_icmp .eq 10, 3) := by decide +kernel
theorem eW_copy_73 : decode prog_1_method_30_code 73 = .ok (.aload_n 0, 1) := by decide +kernel
theorem eW_copy_74 : decode prog_1_method_30_code 74 = .ok (.ldc 110, 2) := by decide +kernel
theorem eW_copy_76 : decode prog_1_method_30_code 76 = .ok (.invokevirtual 52, 3) := by decide +kernel
theorem eW_copy_79 : decode prog_1_method_30_code 79 = .ok (.ireturn, 1) := by decide +kernel
theorem eW_copy_80 : decode prog_1_method_30_code 80 = .ok (.aload 6, 2) := by decide +kernel
theorem eW_copy_82 : decode prog_1_method_30_code 82 = .ok (.iload_n 2, 1) := by decide +kernel
theorem eW_copy_83 : decode prog_1_method_30_code 83 = .ok (.iload 5, 2) := by decide +kernel
theorem eW_copy_85 : decode prog_1_method_30_code 85 = .ok (.invokevirtual 226, 3) := by decide +kernel
theorem eW_copy_88 : decode prog_1_method_30_code 88 = .ok (.ifCond .eq 15, 3) := by decide +kernel
theorem eW_copy_91 : decode prog_1_method_30_code 91 = .ok (.aload 7, 2) := by decide +kernel
theorem eW_copy_93 : decode prog_1_method_30_code 93 = .ok (.iload 4, 2) := by decide +kernel
theorem eW_copy_95 : decode prog_1_method_30_code 95 = .ok (.iload 5, 2) := by decide +kernel
theorem eW_copy_97 : decode prog_1_method_30_code 97 = .ok (.invokevirtual 226, 3) := by decide +kernel
theorem eW_copy_100 : decode prog_1_method_30_code 100 = .ok (.ifCond .ne 10, 3) := by decide +kernel
theorem eW_copy_103 : decode prog_1_method_30_code 103 = .ok (.aload_n 0, 1) := by decide +kernel
theorem eW_copy_104 : decode prog_1_method_30_code 104 = .ok (.ldc 51, 2) := by decide +kernel
theorem eW_copy_106 : decode prog_1_method_30_code 106 = .ok (.invokevirtual 52, 3) := by decide +kernel
theorem eW_copy_109 : decode prog_1_method_30_code 109 = .ok (.ireturn, 1) := by decide +kernel
theorem eW_copy_110 : decode prog_1_method_30_code 110 = .ok (.aload 6, 2) := by decide +kernel
theorem eW_copy_112 : decode prog_1_method_30_code 112 = .ok (.getfield 215, 3) := by decide +kernel
theorem eW_copy_115 : decode prog_1_method_30_code 115 = .ok (.iload_n 2, 1) := by decide +kernel
theorem eW_copy_116 : decode prog_1_method_30_code 116 = .ok (.aload 7, 2) := by decide +kernel
theorem eW_copy_118 : decode prog_1_method_30_code 118 = .ok (.getfield 215, 3) := by decide +kernel
theorem eW_copy_121 : decode prog_1_method_30_code 121 = .ok (.iload 4, 2) := by decide +kernel
theorem eW_copy_123 : decode prog_1_method_30_code 123 = .ok (.iload 5, 2) := by decide +kernel
theorem eW_copy_125 : decode prog_1_method_30_code 125 = .ok (.invokestatic 229, 3) := by decide +kernel
theorem eW_copy_128 : decode prog_1_method_30_code 128 = .ok (.iload 5, 2) := by decide +kernel
theorem eW_copy_130 : decode prog_1_method_30_code 130 = .ok (.ireturn, 1) := by decide +kernel
theorem eS_hasPart_0 : decode prog_3_method_5_code 0 = .ok (.iload_n 1, 1) := by decide +kernel
theorem eS_hasPart_1 : decode prog_3_method_5_code 1 = .ok (.ifCond .lt 21, 3) := by decide +kernel
theorem eS_hasPart_4 : decode prog_3_method_5_code 4 = .ok (.iload_n 2, 1) := by decide +kernel
theorem eS_hasPart_5 : decode prog_3_method_5_code 5 = .ok (.ifCond .lt 17, 3) := by decide +kernel
theorem eS_hasPart_8 : decode prog_3_method_5_code 8 = .ok (.iload_n 1, 1) := by decide +kernel
theorem eS_hasPart_9 : decode prog_3_method_5_code 9 = .ok (.aload_n 0, 1) := by decide +kernel
theorem eS_hasPart_10 : decode prog_3_method_5_code 10 = .ok (.getfield 15, 3) := by decide +kernel
theorem eS_hasPart_13 : decode prog_3_method_5_code 13 = .ok (.iload_n 2, 1) := by decide +kernel
theorem eS_hasPart_14 : decode prog_3_method_5_code 14 = .ok (.isub, 1) := by decide +kernel
theorem eS_hasPart_15 : decode prog_3_method_5_code 15 = .ok (.if_icmp .gt 7, 3) := by decide +kernel
theorem eS_hasPart_18 : decode prog_3_method_5_code 18 = .ok (.iconst 1, 1) := by decide +kernel
theorem eS_hasPart_19 : decode prog_3_method_5_code 19 = .ok (.goto 4, 3) := by decide +kernel
theorem eS_hasPart_22 : decode prog_3_method_5_code 22 = .ok (.iconst 0, 1) := by decide +kernel
theorem eS_hasPart_23 : decode prog_3_method_5_code 23 = .ok (.ireturn, 1) := by decide +kernel
theorem eW_lays_0 : decode prog_1_method_31_code 0 = .ok (.iload_n 1, 1) := by decide +kernel
theorem eW_lays_1 : decode prog_1_method_31_code 1 = .ok (.invokestatic 203, 3) := by decide +kernel
theorem eW_lays_4 : decode prog_1_method_31_code 4 = .ok (.ifCond .ne 10, 3) := by decide +kernel
theorem eW_lays_7 : decode prog_1_method_31_code 7 = .ok (.aload_n 0, 1) := by decide +kernel
theorem eW_lays_8 : decode prog_1_method_31_code 8 = .ok (.ldc 51, 2) := by decide +kernel
theorem eW_lays_10 : decode prog_1_method_31_code 10 = .ok (.invokevirtual 52, 3) := by decide +kernel
theorem eW_lays_13 : decode prog_1_method_31_code 13 = .ok (.ireturn, 1) := by decide +kernel
theorem eW_lays_14 : decode prog_1_method_31_code 14 = .ok (.aload_n 0, 1) := by decide +kernel
theorem eW_lays_15 : decode prog_1_method_31_code 15 = .ok (.getfield 35, 3) := by decide +kernel
theorem eW_lays_18 : decode prog_1_method_31_code 18 = .ok (.iload_n 1, 1) := by decide +kernel
theorem eW_lays_19 : decode prog_1_method_31_code 19 = .ok (.aaload, 1) := by decide +kernel
theorem eW_lays_20 : decode prog_1_method_31_code 20 = .ok (.astore_n 2, 1) := by decide +kernel
theorem eW_lays_21 : decode prog_1_method_31_code 21 = .ok (.aload_n 2, 1) := by decide +kernel
theorem eW_lays_22 : decode prog_1_method_31_code 22 = .ok (.invokevirtual 210, 3) := by decide +kernel
theorem eW_lays_25 : decode prog_1_method_31_code 25 = .ok (.ifCond .eq 10, 3) := by decide +kernel
theorem eW_lays_28 : decode prog_1_method_31_code 28 = .ok (.aload_n 0, 1) := by decide +kernel
theorem eW_lays_29 : decode prog_1_method_31_code 29 = .ok (.ldc 213, 2) := by decide +kernel
theorem eW_lays_31 : decode prog_1_method_31_code 31 = .ok (.invokevirtual 52, 3) := by decide +kernel
theorem eW_lays_34 : decode prog_1_method_31_code 34 = .ok (.ireturn, 1) := by decide +kernel
theorem eW_lays_35 : decode prog_1_method_31_code 35 = .ok (.iconst 0, 1) := by decide +kernel
theorem eW_lays_36 : decode prog_1_method_31_code 36 = .ok (.istore_n 3, 1) := by decide +kernel
theorem eW_lays_37 : decode prog_1_method_31_code 37 = .ok (.iconst 0, 1) := by decide +kernel
theorem eW_lays_38 : decode prog_1_method_31_code 38 = .ok (.istore 4, 2) := by decide +kernel
theorem eW_lays_40 : decode prog_1_method_31_code 40 = .ok (.iload 4, 2) := by decide +kernel
theorem eW_lays_42 : decode prog_1_method_31_code 42 = .ok (.aload_n 2, 1) := by decide +kernel
theorem eW_lays_43 : decode prog_1_method_31_code 43 = .ok (.getfield 214, 3) := by decide +kernel
theorem eW_lays_46 : decode prog_1_method_31_code 46 = .ok (.if_icmp .ge 63, 3) := by decide +kernel
theorem eW_lays_49 : decode prog_1_method_31_code 49 = .ok (.iload 4, 2) := by decide +kernel
theorem eW_lays_51 : decode prog_1_method_31_code 51 = .ok (.aload_n 0, 1) := by decide +kernel
theorem eW_lays_52 : decode prog_1_method_31_code 52 = .ok (.getfield 10, 3) := by decide +kernel
theorem eW_lays_55 : decode prog_1_method_31_code 55 = .ok (.getfield 168, 3) := by decide +kernel
theorem eW_lays_58 : decode prog_1_method_31_code 58 = .ok (.if_icmp .ge 51, 3) := by decide +kernel
theorem eW_lays_61 : decode prog_1_method_31_code 61 = .ok (.aload_n 2, 1) := by decide +kernel
theorem eW_lays_62 : decode prog_1_method_31_code 62 = .ok (.getfield 215, 3) := by decide +kernel
theorem eW_lays_65 : decode prog_1_method_31_code 65 = .ok (.iload 4, 2) := by decide +kernel
theorem eW_lays_67 : decode prog_1_method_31_code 67 = .ok (.laload, 1) := by decide +kernel
theorem eW_lays_68 : decode prog_1_method_31_code 68 = .ok (.lstore 5, 2) := by decide +kernel
theorem eW_lays_70 : decode prog_1_method_31_code 70 = .ok (.lload 5, 2) := by decide +kernel
theorem eW_lays_72 : decode prog_1_method_31_code 72 = .ok (.lconst 0, 1) := by decide +kernel
theorem eW_lays_73 : decode prog_1_method_31_code 73 = .ok (.lcmp, 1) := by decide +kernel
theorem eW_lays_74 : decode prog_1_method_31_code 74 = .ok (.ifCond .lt 29, 3) := by decide +kernel
theorem eW_lays_77 : decode prog_1_method_31_code 77 = .ok (.lload 5, 2) := by decide +kernel
theorem eW_lays_79 : decode prog_1_method_31_code 79 = .ok (.ldc2_w 235, 3) := by decide +kernel
theorem eW_lays_82 : decode prog_1_method_31_code 82 = .ok (.lcmp, 1) := by decide +kernel
theorem eW_lays_83 : decode prog_1_method_31_code 83 = .ok (.ifCond .gt 20, 3) := by decide +kernel
theorem eW_lays_86 : decode prog_1_method_31_code 86 = .ok (.aload_n 0, 1) := by decide +kernel
theorem eW_lays_87 : decode prog_1_method_31_code 87 = .ok (.getfield 10, 3) := by decide +kernel
theorem eW_lays_90 : decode prog_1_method_31_code 90 = .ok (.iload 4, 2) := by decide +kernel
theorem eW_lays_92 : decode prog_1_method_31_code 92 = .ok (.iconst 4, 1) := by decide +kernel
theorem eW_lays_93 : decode prog_1_method_31_code 93 = .ok (.lload 5, 2) := by decide +kernel
theorem eW_lays_95 : decode prog_1_method_31_code 95 = .ok (.l2i, 1) := by decide +kernel
theorem eW_lays_96 : decode prog_1_method_31_code 96 = .ok (.invokevirtual 103, 3) := by decide +kernel
theorem eW_lays_99 : decode prog_1_method_31_code 99 = .ok (.pop, 1) := by decide +kernel
theorem eW_lays_100 : decode prog_1_method_31_code 100 = .ok (.iinc 3 1, 3) := by decide +kernel
theorem eW_lays_103 : decode prog_1_method_31_code 103 = .ok (.iinc 4 1, 3) := by decide +kernel
theorem eW_lays_106 : decode prog_1_method_31_code 106 = .ok (.goto (-66), 3) := by decide +kernel
theorem eW_lays_109 : decode prog_1_method_31_code 109 = .ok (.iload_n 3, 1) := by decide +kernel
theorem eW_lays_110 : decode prog_1_method_31_code 110 = .ok (.ireturn, 1) := by decide +kernel
theorem eW_book_0 : decode prog_1_method_32_code 0 = .ok (.iload_n 1, 1) := by decide +kernel
theorem eW_book_1 : decode prog_1_method_32_code 1 = .ok (.invokestatic 203, 3) := by decide +kernel
theorem eW_book_4 : decode prog_1_method_32_code 4 = .ok (.ifCond .ne 10, 3) := by decide +kernel
theorem eW_book_7 : decode prog_1_method_32_code 7 = .ok (.aload_n 0, 1) := by decide +kernel
theorem eW_book_8 : decode prog_1_method_32_code 8 = .ok (.ldc 51, 2) := by decide +kernel
theorem eW_book_10 : decode prog_1_method_32_code 10 = .ok (.invokevirtual 52, 3) := by decide +kernel
theorem eW_book_13 : decode prog_1_method_32_code 13 = .ok (.ireturn, 1) := by decide +kernel
theorem eW_book_14 : decode prog_1_method_32_code 14 = .ok (.aload_n 0, 1) := by decide +kernel
theorem eW_book_15 : decode prog_1_method_32_code 15 = .ok (.getfield 35, 3) := by decide +kernel
theorem eW_book_18 : decode prog_1_method_32_code 18 = .ok (.iload_n 1, 1) := by decide +kernel
theorem eW_book_19 : decode prog_1_method_32_code 19 = .ok (.aaload, 1) := by decide +kernel
theorem eW_book_20 : decode prog_1_method_32_code 20 = .ok (.astore_n 3, 1) := by decide +kernel
theorem eW_book_21 : decode prog_1_method_32_code 21 = .ok (.aload_n 3, 1) := by decide +kernel
theorem eW_book_22 : decode prog_1_method_32_code 22 = .ok (.invokevirtual 210, 3) := by decide +kernel
theorem eW_book_25 : decode prog_1_method_32_code 25 = .ok (.ifCond .eq 10, 3) := by decide +kernel
theorem eW_book_28 : decode prog_1_method_32_code 28 = .ok (.aload_n 0, 1) := by decide +kernel
theorem eW_book_29 : decode prog_1_method_32_code 29 = .ok (.ldc 213, 2) := by decide +kernel
theorem eW_book_31 : decode prog_1_method_32_code 31 = .ok (.invokevirtual 52, 3) := by decide +kernel
theorem eW_book_34 : decode prog_1_method_32_code 34 = .ok (.ireturn, 1) := by decide +kernel
theorem eW_book_35 : decode prog_1_method_32_code 35 = .ok (.aload_n 0, 1) := by decide +kernel
theorem eW_book_36 : decode prog_1_method_32_code 36 = .ok (.iload_n 2, 1) := by decide +kernel
theorem eW_book_37 : decode prog_1_method_32_code 37 = .ok (.invokevirtual 75, 3) := by decide +kernel
theorem eW_book_40 : decode prog_1_method_32_code 40 = .ok (.ifCond .ne 10, 3) := by decide +kernel
theorem eW_book_43 : decode prog_1_method_32_code 43 = .ok (.aload_n 0, 1) := by decide +kernel
theorem eW_book_44 : decode prog_1_method_32_code 44 = .ok (.ldc 51, 2) := by decide +kernel
theorem eW_book_46 : decode prog_1_method_32_code 46 = .ok (.invokevirtual 52, 3) := by decide +kernel
theorem eW_book_49 : decode prog_1_method_32_code 49 = .ok (.ireturn, 1) := by decide +kernel
theorem eW_book_50 : decode prog_1_method_32_code 50 = .ok (.iconst 0, 1) := by decide +kernel
theorem eW_book_51 : decode prog_1_method_32_code 51 = .ok (.istore 4, 2) := by decide +kernel
theorem eW_book_53 : decode prog_1_method_32_code 53 = .ok (.iload 4, 2) := by decide +kernel
theorem eW_book_55 : decode prog_1_method_32_code 55 = .ok (.aload_n 3, 1) := by decide +kernel
theorem eW_book_56 : decode prog_1_method_32_code 56 = .ok (.getfield 214, 3) := by decide +kernel
theorem eW_book_59 : decode prog_1_method_32_code 59 = .ok (.if_icmp .ge 41, 3) := by decide +kernel
theorem eW_book_62 : decode prog_1_method_32_code 62 = .ok (.aload_n 3, 1) := by decide +kernel
theorem eW_book_63 : decode prog_1_method_32_code 63 = .ok (.iload 4, 2) := by decide +kernel
theorem eW_book_65 : decode prog_1_method_32_code 65 = .ok (.aload_n 0, 1) := by decide +kernel
theorem eW_book_66 : decode prog_1_method_32_code 66 = .ok (.getfield 10, 3) := by decide +kernel
theorem eW_book_69 : decode prog_1_method_32_code 69 = .ok (.iload_n 2, 1) := by decide +kernel
theorem eW_book_70 : decode prog_1_method_32_code 70 = .ok (.aload_n 0, 1) := by decide +kernel
theorem eW_book_71 : decode prog_1_method_32_code 71 = .ok (.getfield 10, 3) := by decide +kernel
theorem eW_book_74 : decode prog_1_method_32_code 74 = .ok (.getfield 86, 3) := by decide +kernel
theorem eW_book_77 : decode prog_1_method_32_code 77 = .ok (.iload 4, 2) := by decide +kernel
theorem eW_book_79 : decode prog_1_method_32_code 79 = .ok (.iadd, 1) := by decide +kernel
theorem eW_book_80 : decode prog_1_method_32_code 80 = .ok (.invokevirtual 90, 3) := by decide +kernel
theorem eW_book_83 : decode prog_1_method_32_code 83 = .ok (.ifCond .eq 7, 3) := by decide +kernel
theorem eW_book_86 : decode prog_1_method_32_code 86 = .ok (.lconst 1, 1) := by decide +kernel
theorem eW_book_87 : decode prog_1_method_32_code 87 = .ok (.goto 4, 3) := by decide +kernel
theorem eW_book_90 : decode prog_1_method_32_code 90 = .ok (.lconst 0, 1) := by decide +kernel
theorem eW_book_91 : decode prog_1_method_32_code 91 = .ok (.invokevirtual 219, 3) := by decide +kernel
theorem eW_book_94 : decode prog_1_method_32_code 94 = .ok (.iinc 4 1, 3) := by decide +kernel
theorem eW_book_97 : decode prog_1_method_32_code 97 = .ok (.goto (-44), 3) := by decide +kernel
theorem eW_book_100 : decode prog_1_method_32_code 100 = .ok (.aload_n 3, 1) := by decide +kernel
theorem eW_book_101 : decode prog_1_method_32_code 101 = .ok (.getfield 214, 3) := by decide +kernel
theorem eW_book_104 : decode prog_1_method_32_code 104 = .ok (.ireturn, 1) := by decide +kernel
theorem eW_read_0 : decode prog_1_method_33_code 0 = .ok (.iload_n 1, 1) := by decide +kernel
theorem eW_read_1 : decode prog_1_method_33_code 1 = .ok (.invokestatic 203, 3) := by decide +kernel
theorem eW_read_4 : decode prog_1_method_33_code 4 = .ok (.ifCond .ne 10, 3) := by decide +kernel
theorem eW_read_7 : decode prog_1_method_33_code 7 = .ok (.aload_n 0, 1) := by decide +kernel
theorem eW_read_8 : decode prog_1_method_33_code 8 = .ok (.ldc 51, 2) := by decide +kernel
theorem eW_read_10 : decode prog_1_method_33_code 10 = .ok (.invokevirtual 52, 3) := by decide +kernel
theorem eW_read_13 : decode prog_1_method_33_code 13 = .ok (.ireturn, 1) := by decide +kernel
theorem eW_read_14 : decode prog_1_method_33_code 14 = .ok (.aload_n 0, 1) := by decide +kernel
theorem eW_read_15 : decode prog_1_method_33_code 15 = .ok (.getfield 35, 3) := by decide +kernel
theorem eW_read_18 : decode prog_1_method_33_code 18 = .ok (.iload_n 1, 1) := by decide +kernel
theorem eW_read_19 : decode prog_1_method_33_code 19 = .ok (.aaload, 1) := by decide +kernel
theorem eW_read_20 : decode prog_1_method_33_code 20 = .ok (.astore_n 3, 1) := by decide +kernel
theorem eW_read_21 : decode prog_1_method_33_code 21 = .ok (.aload_n 3, 1) := by decide +kernel
theorem eW_read_22 : decode prog_1_method_33_code 22 = .ok (.invokevirtual 210, 3) := by decide +kernel
theorem eW_read_25 : decode prog_1_method_33_code 25 = .ok (.ifCond .eq 10, 3) := by decide +kernel
theorem eW_read_28 : decode prog_1_method_33_code 28 = .ok (.aload_n 0, 1) := by decide +kernel
theorem eW_read_29 : decode prog_1_method_33_code 29 = .ok (.ldc 213, 2) := by decide +kernel
theorem eW_read_31 : decode prog_1_method_33_code 31 = .ok (.invokevirtual 52, 3) := by decide +kernel
theorem eW_read_34 : decode prog_1_method_33_code 34 = .ok (.ireturn, 1) := by decide +kernel
theorem eW_read_35 : decode prog_1_method_33_code 35 = .ok (.aload_n 0, 1) := by decide +kernel
theorem eW_read_36 : decode prog_1_method_33_code 36 = .ok (.iload_n 2, 1) := by decide +kernel
theorem eW_read_37 : decode prog_1_method_33_code 37 = .ok (.invokevirtual 75, 3) := by decide +kernel
theorem eW_read_40 : decode prog_1_method_33_code 40 = .ok (.ifCond .ne 10, 3) := by decide +kernel
theorem eW_read_43 : decode prog_1_method_33_code 43 = .ok (.aload_n 0, 1) := by decide +kernel
theorem eW_read_44 : decode prog_1_method_33_code 44 = .ok (.ldc 51, 2) := by decide +kernel
theorem eW_read_46 : decode prog_1_method_33_code 46 = .ok (.invokevirtual 52, 3) := by decide +kernel
theorem eW_read_49 : decode prog_1_method_33_code 49 = .ok (.ireturn, 1) := by decide +kernel
theorem eW_read_50 : decode prog_1_method_33_code 50 = .ok (.iconst 0, 1) := by decide +kernel
theorem eW_read_51 : decode prog_1_method_33_code 51 = .ok (.istore 4, 2) := by decide +kernel
theorem eW_read_53 : decode prog_1_method_33_code 53 = .ok (.iconst 0, 1) := by decide +kernel
theorem eW_read_54 : decode prog_1_method_33_code 54 = .ok (.istore 5, 2) := by decide +kernel
theorem eW_read_56 : decode prog_1_method_33_code 56 = .ok (.iload 5, 2) := by decide +kernel
theorem eW_read_58 : decode prog_1_method_33_code 58 = .ok (.bipush 6, 2) := by decide +kernel
theorem eW_read_60 : decode prog_1_method_33_code 60 = .ok (.if_icmp .ge 46, 3) := by decide +kernel
theorem eW_read_63 : decode prog_1_method_33_code 63 = .ok (.iconst 0, 1) := by decide +kernel
theorem eW_read_64 : decode prog_1_method_33_code 64 = .ok (.istore 6, 2) := by decide +kernel
theorem eW_read_66 : decode prog_1_method_33_code 66 = .ok (.iload 6, 2) := by decide +kernel
theorem eW_read_68 : decode prog_1_method_33_code 68 = .ok (.iconst 4, 1) := by decide +kernel
theorem eW_read_69 : decode prog_1_method_33_code 69 = .ok (.if_icmp .ge 31, 3) := by decide +kernel
theorem eW_read_72 : decode prog_1_method_33_code 72 = .ok (.iload 4, 2) := by decide +kernel
theorem eW_read_74 : decode prog_1_method_33_code 74 = .ok (.aload_n 0, 1) := by decide +kernel
theorem eW_read_75 : decode prog_1_method_33_code 75 = .ok (.aload_n 3, 1) := by decide +kernel
theorem eW_read_76 : decode prog_1_method_33_code 76 = .ok (.iload 5, 2) := by decide +kernel
theorem eW_read_78 : decode prog_1_method_33_code 78 = .ok (.iload 6, 2) := by decide +kernel
theorem eW_read_80 : decode prog_1_method_33_code 80 = .ok (.invokevirtual 237, 3) := by decide +kernel
theorem eW_read_83 : decode prog_1_method_33_code 83 = .ok (.ifCond .eq 7, 3) := by decide +kernel
theorem eW_read_86 : decode prog_1_method_33_code 86 = .ok (.iconst 1, 1) := by decide +kernel
theorem eW_read_87 : decode prog_1_method_33_code 87 = .ok (.goto 4, 3) := by decide +kernel
theorem eW_read_90 : decode prog_1_method_33_code 90 = .ok (.iconst 0, 1) := by decide +kernel
theorem eW_read_91 : decode prog_1_method_33_code 91 = .ok (.iadd, 1) := by decide +kernel
theorem eW_read_92 : decode prog_1_method_33_code 92 = .ok (.istore 4, 2) := by decide +kernel
theorem eW_read_94 : decode prog_1_method_33_code 94 = .ok (.iinc 6 1, 3) := by decide +kernel
theorem eW_read_97 : decode prog_1_method_33_code 97 = .ok (.goto (-31), 3) := by decide +kernel
theorem eW_read_100 : decode prog_1_method_33_code 100 = .ok (.iinc 5 1, 3) := by decide +kernel
theorem eW_read_103 : decode prog_1_method_33_code 103 = .ok (.goto (-47), 3) := by decide +kernel
theorem eW_read_106 : decode prog_1_method_33_code 106 = .ok (.iload 4, 2) := by decide +kernel
theorem eW_read_108 : decode prog_1_method_33_code 108 = .ok (.ireturn, 1) := by decide +kernel
theorem eW_isBookOf_0 : decode prog_1_method_45_code 0 = .ok (.iconst 0, 1) := by decide +kernel
theorem eW_isBookOf_1 : decode prog_1_method_45_code 1 = .ok (.istore 4, 2) := by decide +kernel
theorem eW_isBookOf_3 : decode prog_1_method_45_code 3 = .ok (.iload 4, 2) := by decide +kernel
theorem eW_isBookOf_5 : decode prog_1_method_45_code 5 = .ok (.aload_n 1, 1) := by decide +kernel
theorem eW_isBookOf_6 : decode prog_1_method_45_code 6 = .ok (.getfield 214, 3) := by decide +kernel
theorem eW_isBookOf_9 : decode prog_1_method_45_code 9 = .ok (.if_icmp .ge 81, 3) := by decide +kernel
theorem eW_isBookOf_12 : decode prog_1_method_45_code 12 = .ok (.aload_n 0, 1) := by decide +kernel
theorem eW_isBookOf_13 : decode prog_1_method_45_code 13 = .ok (.getfield 10, 3) := by decide +kernel
theorem eW_isBookOf_16 : decode prog_1_method_45_code 16 = .ok (.getfield 86, 3) := by decide +kernel
theorem eW_isBookOf_19 : decode prog_1_method_45_code 19 = .ok (.iload 4, 2) := by decide +kernel
theorem eW_isBookOf_21 : decode prog_1_method_45_code 21 = .ok (.iadd, 1) := by decide +kernel
theorem eW_isBookOf_22 : decode prog_1_method_45_code 22 = .ok (.istore 5, 2) := by decide +kernel
theorem eW_isBookOf_24 : decode prog_1_method_45_code 24 = .ok (.aload_n 0, 1) := by decide +kernel
theorem eW_isBookOf_25 : decode prog_1_method_45_code 25 = .ok (.getfield 10, 3) := by decide +kernel
theorem eW_isBookOf_28 : decode prog_1_method_45_code 28 = .ok (.getfield 56, 3) := by decide +kernel
theorem eW_isBookOf_31 : decode prog_1_method_45_code 31 = .ok (.iconst 0, 1) := by decide +kernel
theorem eW_isBookOf_32 : decode prog_1_method_45_code 32 = .ok (.iaload, 1) := by decide +kernel
theorem eW_isBookOf_33 : decode prog_1_method_45_code 33 = .ok (.istore 6, 2) := by decide +kernel
theorem eW_isBookOf_35 : decode prog_1_method_45_code 35 = .ok (.aload_n 0, 1) := by decide +kernel
theorem eW_isBookOf_36 : decode prog_1_method_45_code 36 = .ok (.getfield 10, 3) := by decide +kernel
theorem eW_isBookOf_39 : decode prog_1_method_45_code 39 = .ok (.iload_n 2, 1) := by decide +kernel
theorem eW_isBookOf_40 : decode prog_1_method_45_code 40 = .ok (.iload_n 3, 1) := by decide +kernel
theorem eW_isBookOf_41 : decode prog_1_method_45_code 41 = .ok (.iload 5, 2) := by decide +kernel
theorem eW_isBookOf_43 : decode prog_1_method_45_code 43 = .ok (.iload 6, 2) := by decide +kernel
theorem eW_isBookOf_45 : decode prog_1_method_45_code 45 = .ok (.invokestatic 247, 3) := by decide +kernel
theorem eW_isBookOf_48 : decode prog_1_method_45_code 48 = .ok (.iload 5, 2) := by decide +kernel
theorem eW_isBookOf_50 : decode prog_1_method_45_code 50 = .ok (.iload 6, 2) := by decide +kernel
theorem eW_isBookOf_52 : decode prog_1_method_45_code 52 = .ok (.invokestatic 250, 3) := by decide +kernel
theorem eW_isBookOf_55 : decode prog_1_method_45_code 55 = .ok (.invokevirtual 253, 3) := by decide +kernel
theorem eW_isBookOf_58 : decode prog_1_method_45_code 58 = .ok (.istore 7, 2) := by decide +kernel
theorem eW_isBookOf_60 : decode prog_1_method_45_code 60 = .ok (.aload_n 1, 1) := by decide +kernel
theorem eW_isBookOf_61 : decode prog_1_method_45_code 61 = .ok (.getfield 215, 3) := by decide +kernel
theorem eW_isBookOf_64 : decode prog_1_method_45_code 64 = .ok (.iload 4, 2) := by decide +kernel
theorem eW_isBookOf_66 : decode prog_1_method_45_code 66 = .ok (.laload, 1) := by decide +kernel
theorem eW_isBookOf_67 : decode prog_1_method_45_code 67 = .ok (.iload 7, 2) := by decide +kernel
theorem eW_isBookOf_69 : decode prog_1_method_45_code 69 = .ok (.ifCond .eq 7, 3) := by decide +kernel
theorem eW_isBookOf_72 : decode prog_1_method_45_code 72 = .ok (.iconst 1, 1) := by decide +kernel
theorem eW_isBookOf_73 : decode prog_1_method_45_code 73 = .ok (.goto 4, 3) := by decide +kernel
theorem eW_isBookOf_76 : decode prog_1_method_45_code 76 = .ok (.iconst 0, 1) := by decide +kernel
theorem eW_isBookOf_77 : decode prog_1_method_45_code 77 = .ok (.i2l, 1) := by decide +kernel
theorem eW_isBookOf_78 : decode prog_1_method_45_code 78 = .ok (.lcmp, 1) := by decide +kernel
theorem eW_isBookOf_79 : decode prog_1_method_45_code 79 = .ok (.ifCond .eq 5, 3) := by decide +kernel
theorem eW_isBookOf_82 : decode prog_1_method_45_code 82 = .ok (.iconst 0, 1) := by decide +kernel
theorem eW_isBookOf_83 : decode prog_1_method_45_code 83 = .ok (.ireturn, 1) := by decide +kernel
theorem eW_isBookOf_84 : decode prog_1_method_45_code 84 = .ok (.iinc 4 1, 3) := by decide +kernel
theorem eW_isBookOf_87 : decode prog_1_method_45_code 87 = .ok (.goto (-84), 3) := by decide +kernel
theorem eW_isBookOf_90 : decode prog_1_method_45_code 90 = .ok (.iconst 1, 1) := by decide +kernel
theorem eW_isBookOf_91 : decode prog_1_method_45_code 91 = .ok (.ireturn, 1) := by decide +kernel
theorem eW_image_0 : decode prog_1_method_34_code 0 = .ok (.aload_n 0, 1) := by decide +kernel
theorem eW_image_1 : decode prog_1_method_34_code 1 = .ok (.getfield 16, 3) := by decide +kernel
theorem eW_image_4 : decode prog_1_method_34_code 4 = .ok (.aload_n 0, 1) := by decide +kernel
theorem eW_image_5 : decode prog_1_method_34_code 5 = .ok (.getfield 10, 3) := by decide +kernel
theorem eW_image_8 : decode prog_1_method_34_code 8 = .ok (.invokevirtual 183, 3) := by decide +kernel
theorem eW_image_11 : decode prog_1_method_34_code 11 = .ok (.aload_n 0, 1) := by decide +kernel
theorem eW_image_12 : decode prog_1_method_34_code 12 = .ok (.iconst 1, 1) := by decide +kernel
theorem eW_image_13 : decode prog_1_method_34_code 13 = .ok (.putfield 19, 3) := by decide +kernel
theorem eW_image_16 : decode prog_1_method_34_code 16 = .ok (.iconst 1, 1) := by decide +kernel
theorem eW_image_17 : decode prog_1_method_34_code 17 = .ok (.ireturn, 1) := by decide +kernel
theorem eW_undo_0 : decode prog_1_method_35_code 0 = .ok (.aload_n 0, 1) := by decide +kernel
theorem eW_undo_1 : decode prog_1_method_35_code 1 = .ok (.getfield 19, 3) := by decide +kernel
theorem eW_undo_4 : decode prog_1_method_35_code 4 = .ok (.ifCond .ne 10, 3) := by decide +kernel
theorem eW_undo_7 : decode prog_1_method_35_code 7 = .ok (.aload_n 0, 1) := by decide +kernel
theorem eW_undo_8 : decode prog_1_method_35_code 8 = .ok (.ldc 118, 2) := by decide +kernel
theorem eW_undo_10 : decode prog_1_method_35_code 10 = .ok (.invokevirtual 52, 3) := by decide +kernel
theorem eW_undo_13 : decode prog_1_method_35_code 13 = .ok (.ireturn, 1) := by decide +kernel
theorem eW_undo_14 : decode prog_1_method_35_code 14 = .ok (.aload_n 0, 1) := by decide +kernel
theorem eW_undo_15 : decode prog_1_method_35_code 15 = .ok (.getfield 10, 3) := by decide +kernel
theorem eW_undo_18 : decode prog_1_method_35_code 18 = .ok (.aload_n 0, 1) := by decide +kernel
theorem eW_undo_19 : decode prog_1_method_35_code 19 = .ok (.getfield 16, 3) := by decide +kernel
theorem eW_undo_22 : decode prog_1_method_35_code 22 = .ok (.invokevirtual 183, 3) := by decide +kernel
theorem eW_undo_25 : decode prog_1_method_35_code 25 = .ok (.aload_n 0, 1) := by decide +kernel
theorem eW_undo_26 : decode prog_1_method_35_code 26 = .ok (.getfield 10, 3) := by decide +kernel
theorem eW_undo_29 : decode prog_1_method_35_code 29 = .ok (.getfield 168, 3) := by decide +kernel
theorem eW_undo_32 : decode prog_1_method_35_code 32 = .ok (.ireturn, 1) := by decide +kernel
theorem eW_tear_0 : decode prog_1_method_36_code 0 = .ok (.aload_n 0, 1) := by decide +kernel
theorem eW_tear_1 : decode prog_1_method_36_code 1 = .ok (.getfield 19, 3) := by decide +kernel
theorem eW_tear_4 : decode prog_1_method_36_code 4 = .ok (.ifCond .eq 7, 3) := by decide +kernel
theorem eW_tear_7 : decode prog_1_method_36_code 7 = .ok (.iconst 1, 1) := by decide +kernel
theorem eW_tear_8 : decode prog_1_method_36_code 8 = .ok (.goto 4, 3) := by decide +kernel
theorem eW_tear_11 : decode prog_1_method_36_code 11 = .ok (.iconst 0, 1) := by decide +kernel
theorem eW_tear_12 : decode prog_1_method_36_code 12 = .ok (.istore_n 1, 1) := by decide +kernel
theorem eW_tear_13 : decode prog_1_method_36_code 13 = .ok (.aload_n 0, 1) := by decide +kernel
theorem eW_tear_14 : decode prog_1_method_36_code 14 = .ok (.iconst 0, 1) := by decide +kernel
theorem eW_tear_15 : decode prog_1_method_36_code 15 = .ok (.putfield 19, 3) := by decide +kernel
theorem eW_tear_18 : decode prog_1_method_36_code 18 = .ok (.iload_n 1, 1) := by decide +kernel
theorem eW_tear_19 : decode prog_1_method_36_code 19 = .ok (.ireturn, 1) := by decide +kernel
theorem eW_count_0 : decode prog_1_method_37_code 0 = .ok (.iload_n 1, 1) := by decide +kernel
theorem eW_count_1 : decode prog_1_method_37_code 1 = .ok (.tableswitch 63 0 3 #[31, 39, 47, 55], 31) := by decide +kernel
theorem eW_count_32 : decode prog_1_method_37_code 32 = .ok (.aload_n 0, 1) := by decide +kernel
theorem eW_count_33 : decode prog_1_method_37_code 33 = .ok (.getfield 10, 3) := by decide +kernel
theorem eW_count_36 : decode prog_1_method_37_code 36 = .ok (.getfield 168, 3) := by decide +kernel
theorem eW_count_39 : decode prog_1_method_37_code 39 = .ok (.ireturn, 1) := by decide +kernel
theorem eW_count_40 : decode prog_1_method_37_code 40 = .ok (.aload_n 0, 1) := by decide +kernel
theorem eW_count_41 : decode prog_1_method_37_code 41 = .ok (.getfield 29, 3) := by decide +kernel
theorem eW_count_44 : decode prog_1_method_37_code 44 = .ok (.getfield 190, 3) := by decide +kernel
theorem eW_count_47 : decode prog_1_method_37_code 47 = .ok (.ireturn, 1) := by decide +kernel
theorem eW_count_48 : decode prog_1_method_37_code 48 = .ok (.aload_n 0, 1) := by decide +kernel
theorem eW_count_49 : decode prog_1_method_37_code 49 = .ok (.getfield 10, 3) := by decide +kernel
theorem eW_count_52 : decode prog_1_method_37_code 52 = .ok (.invokevirtual 241, 3) := by decide +kernel
theorem eW_count_55 : decode prog_1_method_37_code 55 = .ok (.ireturn, 1) := by decide +kernel
theorem eW_count_56 : decode prog_1_method_37_code 56 = .ok (.aload_n 0, 1) := by decide +kernel
theorem eW_count_57 : decode prog_1_method_37_code 57 = .ok (.getfield 10, 3) := by decide +kernel
theorem eW_count_60 : decode prog_1_method_37_code 60 = .ok (.invokevirtual 244, 3) := by decide +kernel
theorem eW_count_63 : decode prog_1_method_37_code 63 = .ok (.ireturn, 1) := by decide +kernel
theorem eW_count_64 : decode prog_1_method_37_code 64 = .ok (.aload_n 0, 1) := by decide +kernel
theorem eW_count_65 : decode prog_1_method_37_code 65 = .ok (.ldc 51, 2) := by decide +kernel
theorem eW_count_67 : decode prog_1_method_37_code 67 = .ok (.invokevirtual 52, 3) := by decide +kernel
theorem eW_count_70 : decode prog_1_method_37_code 70 = .ok (.ireturn, 1) := by decide +kernel
theorem eP_wordsCountedEach_0 : decode prog_2_method_18_code 0 = .ok (.iconst 0, 1) := by decide +kernel
theorem eP_wordsCountedEach_1 : decode prog_2_method_18_code 1 = .ok (.istore_n 1, 1) := by decide +kernel
theorem eP_wordsCountedEach_2 : decode prog_2_method_18_code 2 = .ok (.iconst 0, 1) := by decide +kernel
theorem eP_wordsCountedEach_3 : decode prog_2_method_18_code 3 = .ok (.istore_n 2, 1) := by decide +kernel
theorem eP_wordsCountedEach_4 : decode prog_2_method_18_code 4 = .ok (.iload_n 2, 1) := by decide +kernel
theorem eP_wordsCountedEach_5 : decode prog_2_method_18_code 5 = .ok (.aload_n 0, 1) := by decide +kernel
theorem eP_wordsCountedEach_6 : decode prog_2_method_18_code 6 = .ok (.getfield 19, 3) := by decide +kernel
theorem eP_wordsCountedEach_9 : decode prog_2_method_18_code 9 = .ok (.if_icmp .ge 23, 3) := by decide +kernel
theorem eP_wordsCountedEach_12 : decode prog_2_method_18_code 12 = .ok (.iload_n 1, 1) := by decide +kernel
theorem eP_wordsCountedEach_13 : decode prog_2_method_18_code 13 = .ok (.aload_n 0, 1) := by decide +kernel
theorem eP_wordsCountedEach_14 : decode prog_2_method_18_code 14 = .ok (.getfield 24, 3) := by decide +kernel
theorem eP_wordsCountedEach_17 : decode prog_2_method_18_code 17 = .ok (.iload_n 2, 1) := by decide +kernel
theorem eP_wordsCountedEach_18 : decode prog_2_method_18_code 18 = .ok (.aaload, 1) := by decide +kernel
theorem eP_wordsCountedEach_19 : decode prog_2_method_18_code 19 = .ok (.iconst 4, 1) := by decide +kernel
theorem eP_wordsCountedEach_20 : decode prog_2_method_18_code 20 = .ok (.iaload, 1) := by decide +kernel
theorem eP_wordsCountedEach_21 : decode prog_2_method_18_code 21 = .ok (.invokestatic 80, 3) := by decide +kernel
theorem eP_wordsCountedEach_24 : decode prog_2_method_18_code 24 = .ok (.iadd, 1) := by decide +kernel
theorem eP_wordsCountedEach_25 : decode prog_2_method_18_code 25 = .ok (.istore_n 1, 1) := by decide +kernel
theorem eP_wordsCountedEach_26 : decode prog_2_method_18_code 26 = .ok (.iinc 2 1, 3) := by decide +kernel
theorem eP_wordsCountedEach_29 : decode prog_2_method_18_code 29 = .ok (.goto (-25), 3) := by decide +kernel
theorem eP_wordsCountedEach_32 : decode prog_2_method_18_code 32 = .ok (.iload_n 1, 1) := by decide +kernel
theorem eP_wordsCountedEach_33 : decode prog_2_method_18_code 33 = .ok (.ireturn, 1) := by decide +kernel
theorem eP_howManyAwake_0 : decode prog_2_method_21_code 0 = .ok (.iconst 0, 1) := by decide +kernel
theorem eP_howManyAwake_1 : decode prog_2_method_21_code 1 = .ok (.istore_n 1, 1) := by decide +kernel
theorem eP_howManyAwake_2 : decode prog_2_method_21_code 2 = .ok (.iconst 0, 1) := by decide +kernel
theorem eP_howManyAwake_3 : decode prog_2_method_21_code 3 = .ok (.istore_n 2, 1) := by decide +kernel
theorem eP_howManyAwake_4 : decode prog_2_method_21_code 4 = .ok (.iload_n 2, 1) := by decide +kernel
theorem eP_howManyAwake_5 : decode prog_2_method_21_code 5 = .ok (.aload_n 0, 1) := by decide +kernel
theorem eP_howManyAwake_6 : decode prog_2_method_21_code 6 = .ok (.getfield 19, 3) := by decide +kernel
theorem eP_howManyAwake_9 : decode prog_2_method_21_code 9 = .ok (.if_icmp .ge 30, 3) := by decide +kernel
theorem eP_howManyAwake_12 : decode prog_2_method_21_code 12 = .ok (.iload_n 1, 1) := by decide +kernel
theorem eP_howManyAwake_13 : decode prog_2_method_21_code 13 = .ok (.aload_n 0, 1) := by decide +kernel
theorem eP_howManyAwake_14 : decode prog_2_method_21_code 14 = .ok (.aload_n 0, 1) := by decide +kernel
theorem eP_howManyAwake_15 : decode prog_2_method_21_code 15 = .ok (.getfield 24, 3) := by decide +kernel
theorem eP_howManyAwake_18 : decode prog_2_method_21_code 18 = .ok (.iload_n 2, 1) := by decide +kernel
theorem eP_howManyAwake_19 : decode prog_2_method_21_code 19 = .ok (.aaload, 1) := by decide +kernel
theorem eP_howManyAwake_20 : decode prog_2_method_21_code 20 = .ok (.invokevirtual 62, 3) := by decide +kernel
theorem eP_howManyAwake_23 : decode prog_2_method_21_code 23 = .ok (.ifCond .eq 7, 3) := by decide +kernel
theorem eP_howManyAwake_26 : decode prog_2_method_21_code 26 = .ok (.iconst 1, 1) := by decide +kernel
theorem eP_howManyAwake_27 : decode prog_2_method_21_code 27 = .ok (.goto 4, 3) := by decide +kernel
theorem eP_howManyAwake_30 : decode prog_2_method_21_code 30 = .ok (.iconst 0, 1) := by decide +kernel
theorem eP_howManyAwake_31 : decode prog_2_method_21_code 31 = .ok (.iadd, 1) := by decide +kernel
theorem eP_howManyAwake_32 : decode prog_2_method_21_code 32 = .ok (.istore_n 1, 1) := by decide +kernel
theorem eP_howManyAwake_33 : decode prog_2_method_21_code 33 = .ok (.iinc 2 1, 3) := by decide +kernel
theorem eP_howManyAwake_36 : decode prog_2_method_21_code 36 = .ok (.goto (-32), 3) := by decide +kernel
theorem eP_howManyAwake_39 : decode prog_2_method_21_code 39 = .ok (.iload_n 1, 1) := by decide +kernel
theorem eP_howManyAwake_40 : decode prog_2_method_21_code 40 = .ok (.ireturn, 1) := by decide +kernel
theorem eW_status_0 : decode prog_1_method_38_code 0 = .ok (.iload_n 1, 1) := by decide +kernel
theorem eW_status_1 : decode prog_1_method_38_code 1 = .ok (.iconst 0, 1) := by decide +kernel
theorem eW_status_2 : decode prog_1_method_38_code 2 = .ok (.bipush 6, 2) := by decide +kernel
theorem eW_status_4 : decode prog_1_method_38_code 4 = .ok (.invokestatic 82, 3) := by decide +kernel
theorem eW_status_7 : decode prog_1_method_38_code 7 = .ok (.ifCond .eq 10, 3) := by decide +kernel
theorem eW_status_10 : decode prog_1_method_38_code 10 = .ok (.aload_n 0, 1) := by decide +kernel
theorem eW_status_11 : decode prog_1_method_38_code 11 = .ok (.getfield 39, 3) := by decide +kernel
theorem eW_status_14 : decode prog_1_method_38_code 14 = .ok (.iload_n 1, 1) := by decide +kernel
theorem eW_status_15 : decode prog_1_method_38_code 15 = .ok (.iaload, 1) := by decide +kernel
theorem eW_status_16 : decode prog_1_method_38_code 16 = .ok (.ireturn, 1) := by decide +kernel
theorem eW_status_17 : decode prog_1_method_38_code 17 = .ok (.iload_n 1, 1) := by decide +kernel
theorem eW_status_18 : decode prog_1_method_38_code 18 = .ok (.iconst (-1), 1) := by decide +kernel
theorem eW_status_19 : decode prog_1_method_38_code 19 = .ok (.if_icmp .eq 10, 3) := by decide +kernel
theorem eW_status_22 : decode prog_1_method_38_code 22 = .ok (.aload_n 0, 1) := by decide +kernel
theorem eW_status_23 : decode prog_1_method_38_code 23 = .ok (.ldc 51, 2) := by decide +kernel
theorem eW_status_25 : decode prog_1_method_38_code 25 = .ok (.invokevirtual 52, 3) := by decide +kernel
theorem eW_status_28 : decode prog_1_method_38_code 28 = .ok (.ireturn, 1) := by decide +kernel
theorem eW_status_29 : decode prog_1_method_38_code 29 = .ok (.iconst 0, 1) := by decide +kernel
theorem eW_status_30 : decode prog_1_method_38_code 30 = .ok (.istore_n 2, 1) := by decide +kernel
theorem eW_status_31 : decode prog_1_method_38_code 31 = .ok (.iconst 0, 1) := by decide +kernel
theorem eW_status_32 : decode prog_1_method_38_code 32 = .ok (.istore_n 3, 1) := by decide +kernel
theorem eW_status_33 : decode prog_1_method_38_code 33 = .ok (.iload_n 3, 1) := by decide +kernel
theorem eW_status_34 : decode prog_1_method_38_code 34 = .ok (.bipush 7, 2) := by decide +kernel
theorem eW_status_36 : decode prog_1_method_38_code 36 = .ok (.if_icmp .ge 18, 3) := by decide +kernel
theorem eW_status_39 : decode prog_1_method_38_code 39 = .ok (.iload_n 2, 1) := by decide +kernel
theorem eW_status_40 : decode prog_1_method_38_code 40 = .ok (.aload_n 0, 1) := by decide +kernel
theorem eW_status_41 : decode prog_1_method_38_code 41 = .ok (.getfield 39, 3) := by decide +kernel
theorem eW_status_44 : decode prog_1_method_38_code 44 = .ok (.iload_n 3, 1) := by decide +kernel
theorem eW_status_45 : decode prog_1_method_38_code 45 = .ok (.iaload, 1) := by decide +kernel
theorem eW_status_46 : decode prog_1_method_38_code 46 = .ok (.iadd, 1) := by decide +kernel
theorem eW_status_47 : decode prog_1_method_38_code 47 = .ok (.istore_n 2, 1) := by decide +kernel
theorem eW_status_48 : decode prog_1_method_38_code 48 = .ok (.iinc 3 1, 3) := by decide +kernel
theorem eW_status_51 : decode prog_1_method_38_code 51 = .ok (.goto (-18), 3) := by decide +kernel
theorem eW_status_54 : decode prog_1_method_38_code 54 = .ok (.iload_n 2, 1) := by decide +kernel
theorem eW_status_55 : decode prog_1_method_38_code 55 = .ok (.ireturn, 1) := by decide +kernel
theorem eM_rota_0 : decode prog_6_method_20_code 0 = .ok (.iload_n 1, 1) := by decide +kernel
theorem eM_rota_1 : decode prog_6_method_20_code 1 = .ok (.ifCond .ne 13, 3) := by decide +kernel
theorem eM_rota_4 : decode prog_6_method_20_code 4 = .ok (.iload_n 2, 1) := by decide +kernel
theorem eM_rota_5 : decode prog_6_method_20_code 5 = .ok (.iconst 1, 1) := by decide +kernel
theorem eM_rota_6 : decode prog_6_method_20_code 6 = .ok (.bipush 60, 2) := by decide +kernel
theorem eM_rota_8 : decode prog_6_method_20_code 8 = .ok (.invokestatic 42, 3) := by decide +kernel
theorem eM_rota_11 : decode prog_6_method_20_code 11 = .ok (.goto 52, 3) := by decide +kernel
theorem eM_rota_14 : decode prog_6_method_20_code 14 = .ok (.iload_n 1, 1) := by decide +kernel
theorem eM_rota_15 : decode prog_6_method_20_code 15 = .ok (.iconst 1, 1) := by decide +kernel
theorem eM_rota_16 : decode prog_6_method_20_code 16 = .ok (.if_icmp .ne 13, 3) := by decide +kernel
theorem eM_rota_19 : decode prog_6_method_20_code 19 = .ok (.iload_n 2, 1) := by decide +kernel
theorem eM_rota_20 : decode prog_6_method_20_code 20 = .ok (.iconst 0, 1) := by decide +kernel
theorem eM_rota_21 : decode prog_6_method_20_code 21 = .ok (.bipush 60, 2) := by decide +kernel
theorem eM_rota_23 : decode prog_6_method_20_code 23 = .ok (.invokestatic 42, 3) := by decide +kernel
theorem eM_rota_26 : decode prog_6_method_20_code 26 = .ok (.goto 37, 3) := by decide +kernel
theorem eM_rota_29 : decode prog_6_method_20_code 29 = .ok (.iload_n 1, 1) := by decide +kernel
theorem eM_rota_30 : decode prog_6_method_20_code 30 = .ok (.iconst 2, 1) := by decide +kernel
theorem eM_rota_31 : decode prog_6_method_20_code 31 = .ok (.if_icmp .ne 12, 3) := by decide +kernel
theorem eM_rota_34 : decode prog_6_method_20_code 34 = .ok (.iload_n 2, 1) := by decide +kernel
theorem eM_rota_35 : decode prog_6_method_20_code 35 = .ok (.iconst 0, 1) := by decide +kernel
theorem eM_rota_36 : decode prog_6_method_20_code 36 = .ok (.iconst 3, 1) := by decide +kernel
theorem eM_rota_37 : decode prog_6_method_20_code 37 = .ok (.invokestatic 42, 3) := by decide +kernel
theorem eM_rota_40 : decode prog_6_method_20_code 40 = .ok (.goto 23, 3) := by decide +kernel
theorem eM_rota_43 : decode prog_6_method_20_code 43 = .ok (.iload_n 1, 1) := by decide +kernel
theorem eM_rota_44 : decode prog_6_method_20_code 44 = .ok (.iconst 3, 1) := by decide +kernel
theorem eM_rota_45 : decode prog_6_method_20_code 45 = .ok (.if_icmp .ne 17, 3) := by decide +kernel
theorem eM_rota_48 : decode prog_6_method_20_code 48 = .ok (.iload_n 2, 1) := by decide +kernel
theorem eM_rota_49 : decode prog_6_method_20_code 49 = .ok (.iconst 1, 1) := by decide +kernel
theorem eM_rota_50 : decode prog_6_method_20_code 50 = .ok (.bipush 20, 2) := by decide +kernel
theorem eM_rota_52 : decode prog_6_method_20_code 52 = .ok (.invokestatic 42, 3) := by decide +kernel
theorem eM_rota_55 : decode prog_6_method_20_code 55 = .ok (.ifCond .eq 7, 3) := by decide +kernel
theorem eM_rota_58 : decode prog_6_method_20_code 58 = .ok (.iconst 1, 1) := by decide +kernel
theorem eM_rota_59 : decode prog_6_method_20_code 59 = .ok (.goto 4, 3) := by decide +kernel
theorem eM_rota_62 : decode prog_6_method_20_code 62 = .ok (.iconst 0, 1) := by decide +kernel
theorem eM_rota_63 : decode prog_6_method_20_code 63 = .ok (.istore_n 3, 1) := by decide +kernel
theorem eM_rota_64 : decode prog_6_method_20_code 64 = .ok (.iload_n 3, 1) := by decide +kernel
theorem eM_rota_65 : decode prog_6_method_20_code 65 = .ok (.ifCond .eq 14, 3) := by decide +kernel
theorem eM_rota_68 : decode prog_6_method_20_code 68 = .ok (.aload_n 0, 1) := by decide +kernel
theorem eM_rota_69 : decode prog_6_method_20_code 69 = .ok (.iconst 1, 1) := by decide +kernel
theorem eM_rota_70 : decode prog_6_method_20_code 70 = .ok (.iload_n 1, 1) := by decide +kernel
theorem eM_rota_71 : decode prog_6_method_20_code 71 = .ok (.iadd, 1) := by decide +kernel
theorem eM_rota_72 : decode prog_6_method_20_code 72 = .ok (.iload_n 2, 1) := by decide +kernel
theorem eM_rota_73 : decode prog_6_method_20_code 73 = .ok (.invokevirtual 54, 3) := by decide +kernel
theorem eM_rota_76 : decode prog_6_method_20_code 76 = .ok (.goto 9, 3) := by decide +kernel
theorem eM_rota_79 : decode prog_6_method_20_code 79 = .ok (.aload_n 0, 1) := by decide +kernel
theorem eM_rota_80 : decode prog_6_method_20_code 80 = .ok (.ldc 41, 2) := by decide +kernel
theorem eM_rota_82 : decode prog_6_method_20_code 82 = .ok (.invokevirtual 57, 3) := by decide +kernel
theorem eM_rota_85 : decode prog_6_method_20_code 85 = .ok (.ireturn, 1) := by decide +kernel
theorem eM_in_0 : decode prog_6_method_2_code 0 = .ok (.iload_n 0, 1) := by decide +kernel
theorem eM_in_1 : decode prog_6_method_2_code 1 = .ok (.iload_n 1, 1) := by decide +kernel
theorem eM_in_2 : decode prog_6_method_2_code 2 = .ok (.if_icmp .lt 12, 3) := by decide +kernel
theorem eM_in_5 : decode prog_6_method_2_code 5 = .ok (.iload_n 0, 1) := by decide +kernel
theorem eM_in_6 : decode prog_6_method_2_code 6 = .ok (.iload_n 2, 1) := by decide +kernel
theorem eM_in_7 : decode prog_6_method_2_code 7 = .ok (.if_icmp .gt 7, 3) := by decide +kernel
theorem eM_in_10 : decode prog_6_method_2_code 10 = .ok (.iconst 1, 1) := by decide +kernel
theorem eM_in_11 : decode prog_6_method_2_code 11 = .ok (.goto 4, 3) := by decide +kernel
theorem eM_in_14 : decode prog_6_method_2_code 14 = .ok (.iconst 0, 1) := by decide +kernel
theorem eM_in_15 : decode prog_6_method_2_code 15 = .ok (.ireturn, 1) := by decide +kernel
theorem eM_finds_0 : decode prog_6_method_3_code 0 = .ok (.aload_n 0, 1) := by decide +kernel
theorem eM_finds_1 : decode prog_6_method_3_code 1 = .ok (.getfield 13, 3) := by decide +kernel
theorem eM_finds_4 : decode prog_6_method_3_code 4 = .ok (.ldc 41, 2) := by decide +kernel
theorem eM_finds_6 : decode prog_6_method_3_code 6 = .ok (.iload_n 1, 1) := by decide +kernel
theorem eM_finds_7 : decode prog_6_method_3_code 7 = .ok (.isub, 1) := by decide +kernel
theorem eM_finds_8 : decode prog_6_method_3_code 8 = .ok (.dup2, 1) := by decide +kernel
theorem eM_finds_9 : decode prog_6_method_3_code 9 = .ok (.iaload, 1) := by decide +kernel
theorem eM_finds_10 : decode prog_6_method_3_code 10 = .ok (.iconst 1, 1) := by decide +kernel
theorem eM_finds_11 : decode prog_6_method_3_code 11 = .ok (.iadd, 1) := by decide +kernel
theorem eM_finds_12 : decode prog_6_method_3_code 12 = .ok (.iastore, 1) := by decide +kernel
theorem eM_finds_13 : decode prog_6_method_3_code 13 = .ok (.iload_n 1, 1) := by decide +kernel
theorem eM_finds_14 : decode prog_6_method_3_code 14 = .ok (.ireturn, 1) := by decide +kernel
theorem eM_becomes_0 : decode prog_6_method_7_code 0 = .ok (.aload_n 0, 1) := by decide +kernel
theorem eM_becomes_1 : decode prog_6_method_7_code 1 = .ok (.getfield 7, 3) := by decide +kernel
theorem eM_becomes_4 : decode prog_6_method_7_code 4 = .ok (.iload_n 1, 1) := by decide +kernel
theorem eM_becomes_5 : decode prog_6_method_7_code 5 = .ok (.iaload, 1) := by decide +kernel
theorem eM_becomes_6 : decode prog_6_method_7_code 6 = .ok (.istore_n 3, 1) := by decide +kernel
theorem eM_becomes_7 : decode prog_6_method_7_code 7 = .ok (.aload_n 0, 1) := by decide +kernel
theorem eM_becomes_8 : decode prog_6_method_7_code 8 = .ok (.getfield 7, 3) := by decide +kernel
theorem eM_becomes_11 : decode prog_6_method_7_code 11 = .ok (.iload_n 1, 1) := by decide +kernel
theorem eM_becomes_12 : decode prog_6_method_7_code 12 = .ok (.iload_n 2, 1) := by decide +kernel
theorem eM_becomes_13 : decode prog_6_method_7_code 13 = .ok (.iastore, 1) := by decide +kernel
theorem eM_becomes_14 : decode prog_6_method_7_code 14 = .ok (.iload_n 3, 1) := by decide +kernel
theorem eM_becomes_15 : decode prog_6_method_7_code 15 = .ok (.ireturn, 1) := by decide +kernel
theorem eM_wall_0 : decode prog_6_method_22_code 0 = .ok (.iload_n 1, 1) := by decide +kernel
theorem eM_wall_1 : decode prog_6_method_22_code 1 = .ok (.invokestatic 65, 3) := by decide +kernel
theorem eM_wall_4 : decode prog_6_method_22_code 4 = .ok (.ifCond .eq 17, 3) := by decide +kernel
theorem eM_wall_7 : decode prog_6_method_22_code 7 = .ok (.iload_n 2, 1) := by decide +kernel
theorem eM_wall_8 : decode prog_6_method_22_code 8 = .ok (.invokestatic 69, 3) := by decide +kernel
theorem eM_wall_11 : decode prog_6_method_22_code 11 = .ok (.ifCond .eq 10, 3) := by decide +kernel
theorem eM_wall_14 : decode prog_6_method_22_code 14 = .ok (.iload_n 3, 1) := by decide +kernel
theorem eM_wall_15 : decode prog_6_method_22_code 15 = .ok (.invokestatic 69, 3) := by decide +kernel
theorem eM_wall_18 : decode prog_6_method_22_code 18 = .ok (.ifCond .ne 10, 3) := by decide +kernel
theorem eM_wall_21 : decode prog_6_method_22_code 21 = .ok (.aload_n 0, 1) := by decide +kernel
theorem eM_wall_22 : decode prog_6_method_22_code 22 = .ok (.ldc 41, 2) := by decide +kernel
theorem eM_wall_24 : decode prog_6_method_22_code 24 = .ok (.invokevirtual 57, 3) := by decide +kernel
theorem eM_wall_27 : decode prog_6_method_22_code 27 = .ok (.ireturn, 1) := by decide +kernel
theorem eM_wall_28 : decode prog_6_method_22_code 28 = .ok (.aload_n 0, 1) := by decide +kernel
theorem eM_wall_29 : decode prog_6_method_22_code 29 = .ok (.getfield 7, 3) := by decide +kernel
theorem eM_wall_32 : decode prog_6_method_22_code 32 = .ok (.iconst 5, 1) := by decide +kernel
theorem eM_wall_33 : decode prog_6_method_22_code 33 = .ok (.iaload, 1) := by decide +kernel
theorem eM_wall_34 : decode prog_6_method_22_code 34 = .ok (.bipush 10, 2) := by decide +kernel
theorem eM_wall_36 : decode prog_6_method_22_code 36 = .ok (.if_icmp .ne 10, 3) := by decide +kernel
theorem eM_wall_39 : decode prog_6_method_22_code 39 = .ok (.aload_n 0, 1) := by decide +kernel
theorem eM_wall_40 : decode prog_6_method_22_code 40 = .ok (.ldc 72, 2) := by decide +kernel
theorem eM_wall_42 : decode prog_6_method_22_code 42 = .ok (.invokevirtual 57, 3) := by decide +kernel
theorem eM_wall_45 : decode prog_6_method_22_code 45 = .ok (.ireturn, 1) := by decide +kernel
theorem eM_wall_46 : decode prog_6_method_22_code 46 = .ok (.aload_n 0, 1) := by decide +kernel
theorem eM_wall_47 : decode prog_6_method_22_code 47 = .ok (.iload_n 1, 1) := by decide +kernel
theorem eM_wall_48 : decode prog_6_method_22_code 48 = .ok (.iload_n 2, 1) := by decide +kernel
theorem eM_wall_49 : decode prog_6_method_22_code 49 = .ok (.iload_n 3, 1) := by decide +kernel
theorem eM_wall_50 : decode prog_6_method_22_code 50 = .ok (.iconst 0, 1) := by decide +kernel
theorem eM_wall_51 : decode prog_6_method_22_code 51 = .ok (.invokevirtual 73, 3) := by decide +kernel
theorem eM_wall_54 : decode prog_6_method_22_code 54 = .ok (.aload_n 0, 1) := by decide +kernel
theorem eM_wall_55 : decode prog_6_method_22_code 55 = .ok (.getfield 7, 3) := by decide +kernel
theorem eM_wall_58 : decode prog_6_method_22_code 58 = .ok (.iconst 5, 1) := by decide +kernel
theorem eM_wall_59 : decode prog_6_method_22_code 59 = .ok (.iaload, 1) := by decide +kernel
theorem eM_wall_60 : decode prog_6_method_22_code 60 = .ok (.iconst 1, 1) := by decide +kernel
theorem eM_wall_61 : decode prog_6_method_22_code 61 = .ok (.isub, 1) := by decide +kernel
theorem eM_wall_62 : decode prog_6_method_22_code 62 = .ok (.ireturn, 1) := by decide +kernel
theorem eM_isKind_0 : decode prog_6_method_11_code 0 = .ok (.iload_n 0, 1) := by decide +kernel
theorem eM_isKind_1 : decode prog_6_method_11_code 1 = .ok (.iconst 0, 1) := by decide +kernel
theorem eM_isKind_2 : decode prog_6_method_11_code 2 = .ok (.iconst 5, 1) := by decide +kernel
theorem eM_isKind_3 : decode prog_6_method_11_code 3 = .ok (.invokestatic 42, 3) := by decide +kernel
theorem eM_isKind_6 : decode prog_6_method_11_code 6 = .ok (.ireturn, 1) := by decide +kernel
theorem eM_isRoom_0 : decode prog_6_method_9_code 0 = .ok (.iload_n 0, 1) := by decide +kernel
theorem eM_isRoom_1 : decode prog_6_method_9_code 1 = .ok (.iconst 0, 1) := by decide +kernel
theorem eM_isRoom_2 : decode prog_6_method_9_code 2 = .ok (.bipush 9, 2) := by decide +kernel
theorem eM_isRoom_4 : decode prog_6_method_9_code 4 = .ok (.invokestatic 42, 3) := by decide +kernel
theorem eM_isRoom_7 : decode prog_6_method_9_code 7 = .ok (.ireturn, 1) := by decide +kernel
theorem eM_addWall_0 : decode prog_6_method_21_code 0 = .ok (.aload_n 0, 1) := by decide +kernel
theorem eM_addWall_1 : decode prog_6_method_21_code 1 = .ok (.getfield 7, 3) := by decide +kernel
theorem eM_addWall_4 : decode prog_6_method_21_code 4 = .ok (.iconst 5, 1) := by decide +kernel
theorem eM_addWall_5 : decode prog_6_method_21_code 5 = .ok (.iaload, 1) := by decide +kernel
theorem eM_addWall_6 : decode prog_6_method_21_code 6 = .ok (.istore 5, 2) := by decide +kernel
theorem eM_addWall_8 : decode prog_6_method_21_code 8 = .ok (.aload_n 0, 1) := by decide +kernel
theorem eM_addWall_9 : decode prog_6_method_21_code 9 = .ok (.iload 5, 2) := by decide +kernel
theorem eM_addWall_11 : decode prog_6_method_21_code 11 = .ok (.iconst 0, 1) := by decide +kernel
theorem eM_addWall_12 : decode prog_6_method_21_code 12 = .ok (.iload_n 1, 1) := by decide +kernel
theorem eM_addWall_13 : decode prog_6_method_21_code 13 = .ok (.invokevirtual 61, 3) := by decide +kernel
theorem eM_addWall_16 : decode prog_6_method_21_code 16 = .ok (.aload_n 0, 1) := by decide +kernel
theorem eM_addWall_17 : decode prog_6_method_21_code 17 = .ok (.iload 5, 2) := by decide +kernel
theorem eM_addWall_19 : decode prog_6_method_21_code 19 = .ok (.iconst 1, 1) := by decide +kernel
theorem eM_addWall_20 : decode prog_6_method_21_code 20 = .ok (.iload_n 2, 1) := by decide +kernel
theorem eM_addWall_21 : decode prog_6_method_21_code 21 = .ok (.invokevirtual 61, 3) := by decide +kernel
theorem eM_addWall_24 : decode prog_6_method_21_code 24 = .ok (.aload_n 0, 1) := by decide +kernel
theorem eM_addWall_25 : decode prog_6_method_21_code 25 = .ok (.iload 5, 2) := by decide +kernel
theorem eM_addWall_27 : decode prog_6_method_21_code 27 = .ok (.iconst 2, 1) := by decide +kernel
theorem eM_addWall_28 : decode prog_6_method_21_code 28 = .ok (.iload_n 3, 1) := by decide +kernel
theorem eM_addWall_29 : decode prog_6_method_21_code 29 = .ok (.invokevirtual 61, 3) := by decide +kernel
theorem eM_addWall_32 : decode prog_6_method_21_code 32 = .ok (.aload_n 0, 1) := by decide +kernel
theorem eM_addWall_33 : decode prog_6_method_21_code 33 = .ok (.iload 5, 2) := by decide +kernel
theorem eM_addWall_35 : decode prog_6_method_21_code 35 = .ok (.iconst 3, 1) := by decide +kernel
theorem eM_addWall_36 : decode prog_6_method_21_code 36 = .ok (.iload 4, 2) := by decide +kernel
theorem eM_addWall_38 : decode prog_6_method_21_code 38 = .ok (.invokevirtual 61, 3) := by decide +kernel
theorem eM_addWall_41 : decode prog_6_method_21_code 41 = .ok (.aload_n 0, 1) := by decide +kernel
theorem eM_addWall_42 : decode prog_6_method_21_code 42 = .ok (.iload 5, 2) := by decide +kernel
theorem eM_addWall_44 : decode prog_6_method_21_code 44 = .ok (.iconst 4, 1) := by decide +kernel
theorem eM_addWall_45 : decode prog_6_method_21_code 45 = .ok (.iconst 0, 1) := by decide +kernel
theorem eM_addWall_46 : decode prog_6_method_21_code 46 = .ok (.invokevirtual 61, 3) := by decide +kernel
theorem eM_addWall_49 : decode prog_6_method_21_code 49 = .ok (.aload_n 0, 1) := by decide +kernel
theorem eM_addWall_50 : decode prog_6_method_21_code 50 = .ok (.iload 5, 2) := by decide +kernel
theorem eM_addWall_52 : decode prog_6_method_21_code 52 = .ok (.iconst 5, 1) := by decide +kernel
theorem eM_addWall_53 : decode prog_6_method_21_code 53 = .ok (.iconst 0, 1) := by decide +kernel
theorem eM_addWall_54 : decode prog_6_method_21_code 54 = .ok (.invokevirtual 61, 3) := by decide +kernel
theorem eM_addWall_57 : decode prog_6_method_21_code 57 = .ok (.aload_n 0, 1) := by decide +kernel
theorem eM_addWall_58 : decode prog_6_method_21_code 58 = .ok (.getfield 7, 3) := by decide +kernel
theorem eM_addWall_61 : decode prog_6_method_21_code 61 = .ok (.iconst 5, 1) := by decide +kernel
theorem eM_addWall_62 : decode prog_6_method_21_code 62 = .ok (.dup2, 1) := by decide +kernel
theorem eM_addWall_63 : decode prog_6_method_21_code 63 = .ok (.iaload, 1) := by decide +kernel
theorem eM_addWall_64 : decode prog_6_method_21_code 64 = .ok (.iconst 1, 1) := by decide +kernel
theorem eM_addWall_65 : decode prog_6_method_21_code 65 = .ok (.iadd, 1) := by decide +kernel
theorem eM_addWall_66 : decode prog_6_method_21_code 66 = .ok (.iastore, 1) := by decide +kernel
theorem eM_addWall_67 : decode prog_6_method_21_code 67 = .ok (.return_, 1) := by decide +kernel
theorem eM_puts_0 : decode prog_6_method_6_code 0 = .ok (.aload_n 0, 1) := by decide +kernel
theorem eM_puts_1 : decode prog_6_method_6_code 1 = .ok (.getfield 7, 3) := by decide +kernel
theorem eM_puts_4 : decode prog_6_method_6_code 4 = .ok (.bipush 6, 2) := by decide +kernel
theorem eM_puts_6 : decode prog_6_method_6_code 6 = .ok (.bipush 6, 2) := by decide +kernel
theorem eM_puts_8 : decode prog_6_method_6_code 8 = .ok (.iload_n 1, 1) := by decide +kernel
theorem eM_puts_9 : decode prog_6_method_6_code 9 = .ok (.imul, 1) := by decide +kernel
theorem eM_puts_10 : decode prog_6_method_6_code 10 = .ok (.iadd, 1) := by decide +kernel
theorem eM_puts_11 : decode prog_6_method_6_code 11 = .ok (.iload_n 2, 1) := by decide +kernel
theorem eM_puts_12 : decode prog_6_method_6_code 12 = .ok (.iadd, 1) := by decide +kernel
theorem eM_puts_13 : decode prog_6_method_6_code 13 = .ok (.iload_n 3, 1) := by decide +kernel
theorem eM_puts_14 : decode prog_6_method_6_code 14 = .ok (.iastore, 1) := by decide +kernel
theorem eM_puts_15 : decode prog_6_method_6_code 15 = .ok (.return_, 1) := by decide +kernel
theorem eM_of_0 : decode prog_6_method_23_code 0 = .ok (.aload_n 0, 1) := by decide +kernel
theorem eM_of_1 : decode prog_6_method_23_code 1 = .ok (.iload_n 1, 1) := by decide +kernel
theorem eM_of_2 : decode prog_6_method_23_code 2 = .ok (.invokevirtual 77, 3) := by decide +kernel
theorem eM_of_5 : decode prog_6_method_23_code 5 = .ok (.ifCond .eq 13, 3) := by decide +kernel
theorem eM_of_8 : decode prog_6_method_23_code 8 = .ok (.iload_n 2, 1) := by decide +kernel
theorem eM_of_9 : decode prog_6_method_23_code 9 = .ok (.iconst 0, 1) := by decide +kernel
theorem eM_of_10 : decode prog_6_method_23_code 10 = .ok (.bipush 8, 2) := by decide +kernel
theorem eM_of_12 : decode prog_6_method_23_code 12 = .ok (.invokestatic 42, 3) := by decide +kernel
theorem eM_of_15 : decode prog_6_method_23_code 15 = .ok (.ifCond .ne 10, 3) := by decide +kernel
theorem eM_of_18 : decode prog_6_method_23_code 18 = .ok (.aload_n 0, 1) := by decide +kernel
theorem eM_of_19 : decode prog_6_method_23_code 19 = .ok (.ldc 41, 2) := by decide +kernel
theorem eM_of_21 : decode prog_6_method_23_code 21 = .ok (.invokevirtual 57, 3) := by decide +kernel
theorem eM_of_24 : decode prog_6_method_23_code 24 = .ok (.ireturn, 1) := by decide +kernel
theorem eM_of_25 : decode prog_6_method_23_code 25 = .ok (.iload_n 2, 1) := by decide +kernel
theorem eM_of_26 : decode prog_6_method_23_code 26 = .ok (.tableswitch 66 6 8 #[26, 46, 60], 26) := by decide +kernel
theorem eM_of_52 : decode prog_6_method_23_code 52 = .ok (.aload_n 0, 1) := by decide +kernel
theorem eM_of_53 : decode prog_6_method_23_code 53 = .ok (.iload_n 1, 1) := by decide +kernel
theorem eM_of_54 : decode prog_6_method_23_code 54 = .ok (.aload_n 0, 1) := by decide +kernel
theorem eM_of_55 : decode prog_6_method_23_code 55 = .ok (.getfield 7, 3) := by decide +kernel
theorem eM_of_58 : decode prog_6_method_23_code 58 = .ok (.iconst 0, 1) := by decide +kernel
theorem eM_of_59 : decode prog_6_method_23_code 59 = .ok (.iaload, 1) := by decide +kernel
theorem eM_of_60 : decode prog_6_method_23_code 60 = .ok (.invokevirtual 80, 3) := by decide +kernel
theorem eM_of_63 : decode prog_6_method_23_code 63 = .ok (.ifCond .eq 7, 3) := by decide +kernel
theorem eM_of_66 : decode prog_6_method_23_code 66 = .ok (.iconst 1, 1) := by decide +kernel
theorem eM_of_67 : decode prog_6_method_23_code 67 = .ok (.goto 4, 3) := by decide +kernel
theorem eM_of_70 : decode prog_6_method_23_code 70 = .ok (.iconst 0, 1) := by decide +kernel
theorem eM_of_71 : decode prog_6_method_23_code 71 = .ok (.ireturn, 1) := by decide +kernel
theorem eM_of_72 : decode prog_6_method_23_code 72 = .ok (.aload_n 0, 1) := by decide +kernel
theorem eM_of_73 : decode prog_6_method_23_code 73 = .ok (.iload_n 1, 1) := by decide +kernel
theorem eM_of_74 : decode prog_6_method_23_code 74 = .ok (.invokevirtual 83, 3) := by decide +kernel
theorem eM_of_77 : decode prog_6_method_23_code 77 = .ok (.ifCond .eq 7, 3) := by decide +kernel
theorem eM_of_80 : decode prog_6_method_23_code 80 = .ok (.iconst 1, 1) := by decide +kernel
theorem eM_of_81 : decode prog_6_method_23_code 81 = .ok (.goto 4, 3) := by decide +kernel
theorem eM_of_84 : decode prog_6_method_23_code 84 = .ok (.iconst 0, 1) := by decide +kernel
theorem eM_of_85 : decode prog_6_method_23_code 85 = .ok (.ireturn, 1) := by decide +kernel
theorem eM_of_86 : decode prog_6_method_23_code 86 = .ok (.aload_n 0, 1) := by decide +kernel
theorem eM_of_87 : decode prog_6_method_23_code 87 = .ok (.iload_n 1, 1) := by decide +kernel
theorem eM_of_88 : decode prog_6_method_23_code 88 = .ok (.invokevirtual 86, 3) := by decide +kernel
theorem eM_of_91 : decode prog_6_method_23_code 91 = .ok (.ireturn, 1) := by decide +kernel
theorem eM_of_92 : decode prog_6_method_23_code 92 = .ok (.aload_n 0, 1) := by decide +kernel
theorem eM_of_93 : decode prog_6_method_23_code 93 = .ok (.iload_n 1, 1) := by decide +kernel
theorem eM_of_94 : decode prog_6_method_23_code 94 = .ok (.iload_n 2, 1) := by decide +kernel
theorem eM_of_95 : decode prog_6_method_23_code 95 = .ok (.invokevirtual 46, 3) := by decide +kernel
theorem eM_of_98 : decode prog_6_method_23_code 98 = .ok (.ireturn, 1) := by decide +kernel
theorem eM_isOne_0 : decode prog_6_method_8_code 0 = .ok (.iload_n 1, 1) := by decide +kernel
theorem eM_isOne_1 : decode prog_6_method_8_code 1 = .ok (.iconst 0, 1) := by decide +kernel
theorem eM_isOne_2 : decode prog_6_method_8_code 2 = .ok (.aload_n 0, 1) := by decide +kernel
theorem eM_isOne_3 : decode prog_6_method_8_code 3 = .ok (.getfield 7, 3) := by decide +kernel
theorem eM_isOne_6 : decode prog_6_method_8_code 6 = .ok (.iconst 5, 1) := by decide +kernel
theorem eM_isOne_7 : decode prog_6_method_8_code 7 = .ok (.iaload, 1) := by decide +kernel
theorem eM_isOne_8 : decode prog_6_method_8_code 8 = .ok (.iconst 1, 1) := by decide +kernel
theorem eM_isOne_9 : decode prog_6_method_8_code 9 = .ok (.isub, 1) := by decide +kernel
theorem eM_isOne_10 : decode prog_6_method_8_code 10 = .ok (.invokestatic 42, 3) := by decide +kernel
theorem eM_isOne_13 : decode prog_6_method_8_code 13 = .ok (.ireturn, 1) := by decide +kernel
theorem eM_isOnDuty_0 : decode prog_6_method_14_code 0 = .ok (.iload_n 2, 1) := by decide +kernel
theorem eM_isOnDuty_1 : decode prog_6_method_14_code 1 = .ok (.aload_n 0, 1) := by decide +kernel
theorem eM_isOnDuty_2 : decode prog_6_method_14_code 2 = .ok (.getfield 7, 3) := by decide +kernel
theorem eM_isOnDuty_5 : decode prog_6_method_14_code 5 = .ok (.iconst 1, 1) := by decide +kernel
theorem eM_isOnDuty_6 : decode prog_6_method_14_code 6 = .ok (.iaload, 1) := by decide +kernel
theorem eM_isOnDuty_7 : decode prog_6_method_14_code 7 = .ok (.idiv, 1) := by decide +kernel
theorem eM_isOnDuty_8 : decode prog_6_method_14_code 8 = .ok (.iconst 4, 1) := by decide +kernel
theorem eM_isOnDuty_9 : decode prog_6_method_14_code 9 = .ok (.irem, 1) := by decide +kernel
theorem eM_isOnDuty_10 : decode prog_6_method_14_code 10 = .ok (.istore_n 3, 1) := by decide +kernel
theorem eM_isOnDuty_11 : decode prog_6_method_14_code 11 = .ok (.iload_n 2, 1) := by decide +kernel
theorem eM_isOnDuty_12 : decode prog_6_method_14_code 12 = .ok (.aload_n 0, 1) := by decide +kernel
theorem eM_isOnDuty_13 : decode prog_6_method_14_code 13 = .ok (.getfield 7, 3) := by decide +kernel
theorem eM_isOnDuty_16 : decode prog_6_method_14_code 16 = .ok (.iconst 1, 1) := by decide +kernel
theorem eM_isOnDuty_17 : decode prog_6_method_14_code 17 = .ok (.iaload, 1) := by decide +kernel
theorem eM_isOnDuty_18 : decode prog_6_method_14_code 18 = .ok (.irem, 1) := by decide +kernel
theorem eM_isOnDuty_19 : decode prog_6_method_14_code 19 = .ok (.istore 4, 2) := by decide +kernel
theorem eM_isOnDuty_21 : decode prog_6_method_14_code 21 = .ok (.iload_n 3, 1) := by decide +kernel
theorem eM_isOnDuty_22 : decode prog_6_method_14_code 22 = .ok (.aload_n 0, 1) := by decide +kernel
theorem eM_isOnDuty_23 : decode prog_6_method_14_code 23 = .ok (.iload_n 1, 1) := by decide +kernel
theorem eM_isOnDuty_24 : decode prog_6_method_14_code 24 = .ok (.iconst 3, 1) := by decide +kernel
theorem eM_isOnDuty_25 : decode prog_6_method_14_code 25 = .ok (.invokevirtual 46, 3) := by decide +kernel
theorem eM_isOnDuty_28 : decode prog_6_method_14_code 28 = .ok (.if_icmp .ne 18, 3) := by decide +kernel
theorem eM_isOnDuty_31 : decode prog_6_method_14_code 31 = .ok (.iload 4, 2) := by decide +kernel
theorem eM_isOnDuty_33 : decode prog_6_method_14_code 33 = .ok (.aload_n 0, 1) := by decide +kernel
theorem eM_isOnDuty_34 : decode prog_6_method_14_code 34 = .ok (.getfield 7, 3) := by decide +kernel
theorem eM_isOnDuty_37 : decode prog_6_method_14_code 37 = .ok (.iconst 2, 1) := by decide +kernel
theorem eM_isOnDuty_38 : decode prog_6_method_14_code 38 = .ok (.iaload, 1) := by decide +kernel
theorem eM_isOnDuty_39 : decode prog_6_method_14_code 39 = .ok (.if_icmp .lt 7, 3) := by decide +kernel
theorem eM_isOnDuty_42 : decode prog_6_method_14_code 42 = .ok (.iconst 1, 1) := by decide +kernel
theorem eM_isOnDuty_43 : decode prog_6_method_14_code 43 = .ok (.goto 4, 3) := by decide +kernel
theorem eM_isOnDuty_46 : decode prog_6_method_14_code 46 = .ok (.iconst 0, 1) := by decide +kernel
theorem eM_isOnDuty_47 : decode prog_6_method_14_code 47 = .ok (.istore 5, 2) := by decide +kernel
theorem eM_isOnDuty_49 : decode prog_6_method_14_code 49 = .ok (.aload_n 0, 1) := by decide +kernel
theorem eM_isOnDuty_50 : decode prog_6_method_14_code 50 = .ok (.iload_n 1, 1) := by decide +kernel
theorem eM_isOnDuty_51 : decode prog_6_method_14_code 51 = .ok (.iconst 0, 1) := by decide +kernel
theorem eM_isOnDuty_52 : decode prog_6_method_14_code 52 = .ok (.invokevirtual 46, 3) := by decide +kernel
theorem eM_isOnDuty_55 : decode prog_6_method_14_code 55 = .ok (.tableswitch 116 1 5 #[33, 116, 116, 54, 80], 33) := by decide +kernel
theorem eM_isOnDuty_88 : decode prog_6_method_14_code 88 = .ok (.iload 5, 2) := by decide +kernel
theorem eM_isOnDuty_90 : decode prog_6_method_14_code 90 = .ok (.ifCond .eq 17, 3) := by decide +kernel
theorem eM_isOnDuty_93 : decode prog_6_method_14_code 93 = .ok (.aload_n 0, 1) := by decide +kernel
theorem eM_isOnDuty_94 : decode prog_6_method_14_code 94 = .ok (.getfield 7, 3) := by decide +kernel
theorem eM_isOnDuty_97 : decode prog_6_method_14_code 97 = .ok (.iconst 3, 1) := by decide +kernel
theorem eM_isOnDuty_98 : decode prog_6_method_14_code 98 = .ok (.iaload, 1) := by decide +kernel
theorem eM_isOnDuty_99 : decode prog_6_method_14_code 99 = .ok (.iconst 3, 1) := by decide +kernel
theorem eM_isOnDuty_100 : decode prog_6_method_14_code 100 = .ok (.if_icmp .eq 7, 3) := by decide +kernel
theorem eM_isOnDuty_103 : decode prog_6_method_14_code 103 = .ok (.iconst 1, 1) := by decide +kernel
theorem eM_isOnDuty_104 : decode prog_6_method_14_code 104 = .ok (.goto 4, 3) := by decide +kernel
theorem eM_isOnDuty_107 : decode prog_6_method_14_code 107 = .ok (.iconst 0, 1) := by decide +kernel
theorem eM_isOnDuty_108 : decode prog_6_method_14_code 108 = .ok (.ireturn, 1) := by decide +kernel
theorem eM_isOnDuty_109 : decode prog_6_method_14_code 109 = .ok (.aload_n 0, 1) := by decide +kernel
theorem eM_isOnDuty_110 : decode prog_6_method_14_code 110 = .ok (.getfield 7, 3) := by decide +kernel
theorem eM_isOnDuty_113 : decode prog_6_method_14_code 113 = .ok (.iconst 3, 1) := by decide +kernel
theorem eM_isOnDuty_114 : decode prog_6_method_14_code 114 = .ok (.iaload, 1) := by decide +kernel
theorem eM_isOnDuty_115 : decode prog_6_method_14_code 115 = .ok (.iconst 3, 1) := by decide +kernel
theorem eM_isOnDuty_116 : decode prog_6_method_14_code 116 = .ok (.if_icmp .ne 16, 3) := by decide +kernel
theorem eM_isOnDuty_119 : decode prog_6_method_14_code 119 = .ok (.iload 4, 2) := by decide +kernel
theorem eM_isOnDuty_121 : decode prog_6_method_14_code 121 = .ok (.ifCond .ne 7, 3) := by decide +kernel
theorem eM_isOnDuty_124 : decode prog_6_method_14_code 124 = .ok (.iconst 1, 1) := by decide +kernel
theorem eM_isOnDuty_125 : decode prog_6_method_14_code 125 = .ok (.goto 9, 3) := by decide +kernel
theorem eM_isOnDuty_128 : decode prog_6_method_14_code 128 = .ok (.iconst 0, 1) := by decide +kernel
theorem eM_isOnDuty_129 : decode prog_6_method_14_code 129 = .ok (.goto 5, 3) := by decide +kernel
theorem eM_isOnDuty_132 : decode prog_6_method_14_code 132 = .ok (.iload 5, 2) := by decide +kernel
theorem eM_isOnDuty_134 : decode prog_6_method_14_code 134 = .ok (.ireturn, 1) := by decide +kernel
theorem eM_isOnDuty_135 : decode prog_6_method_14_code 135 = .ok (.iload 5, 2) := by decide +kernel
theorem eM_isOnDuty_137 : decode prog_6_method_14_code 137 = .ok (.ifCond .ne 28, 3) := by decide +kernel
theorem eM_isOnDuty_140 : decode prog_6_method_14_code 140 = .ok (.iload_n 3, 1) := by decide +kernel
theorem eM_isOnDuty_141 : decode prog_6_method_14_code 141 = .ok (.aload_n 0, 1) := by decide +kernel
theorem eM_isOnDuty_142 : decode prog_6_method_14_code 142 = .ok (.iload_n 1, 1) := by decide +kernel
theorem eM_isOnDuty_143 : decode prog_6_method_14_code 143 = .ok (.iconst 3, 1) := by decide +kernel
theorem eM_isOnDuty_144 : decode prog_6_method_14_code 144 = .ok (.invokevirtual 46, 3) := by decide +kernel
theorem eM_isOnDuty_147 : decode prog_6_method_14_code 147 = .ok (.iconst 1, 1) := by decide +kernel
theorem eM_isOnDuty_148 : decode prog_6_method_14_code 148 = .ok (.iadd, 1) := by decide +kernel
theorem eM_isOnDuty_149 : decode prog_6_method_14_code 149 = .ok (.iconst 4, 1) := by decide +kernel
theorem eM_isOnDuty_150 : decode prog_6_method_14_code 150 = .ok (.irem, 1) := by decide +kernel
theorem eM_isOnDuty_151 : decode prog_6_method_14_code 151 = .ok (.if_icmp .ne 18, 3) := by decide +kernel
theorem eM_isOnDuty_154 : decode prog_6_method_14_code 154 = .ok (.iload 4, 2) := by decide +kernel
theorem eM_isOnDuty_156 : decode prog_6_method_14_code 156 = .ok (.aload_n 0, 1) := by decide +kernel
theorem eM_isOnDuty_157 : decode prog_6_method_14_code 157 = .ok (.getfield 7, 3) := by decide +kernel
theorem eM_isOnDuty_160 : decode prog_6_method_14_code 160 = .ok (.iconst 2, 1) := by decide +kernel
theorem eM_isOnDuty_161 : decode prog_6_method_14_code 161 = .ok (.iaload, 1) := by decide +kernel
theorem eM_isOnDuty_162 : decode prog_6_method_14_code 162 = .ok (.if_icmp .lt 7, 3) := by decide +kernel
theorem eM_isOnDuty_165 : decode prog_6_method_14_code 165 = .ok (.iconst 1, 1) := by decide +kernel
theorem eM_isOnDuty_166 : decode prog_6_method_14_code 166 = .ok (.goto 4, 3) := by decide +kernel
theorem eM_isOnDuty_169 : decode prog_6_method_14_code 169 = .ok (.iconst 0, 1) := by decide +kernel
theorem eM_isOnDuty_170 : decode prog_6_method_14_code 170 = .ok (.ireturn, 1) := by decide +kernel
theorem eM_isOnDuty_171 : decode prog_6_method_14_code 171 = .ok (.iload 5, 2) := by decide +kernel
theorem eM_isOnDuty_173 : decode prog_6_method_14_code 173 = .ok (.ireturn, 1) := by decide +kernel
theorem eM_its_0 : decode prog_6_method_5_code 0 = .ok (.aload_n 0, 1) := by decide +kernel
theorem eM_its_1 : decode prog_6_method_5_code 1 = .ok (.getfield 7, 3) := by decide +kernel
theorem eM_its_4 : decode prog_6_method_5_code 4 = .ok (.bipush 6, 2) := by decide +kernel
theorem eM_its_6 : decode prog_6_method_5_code 6 = .ok (.bipush 6, 2) := by decide +kernel
theorem eM_its_8 : decode prog_6_method_5_code 8 = .ok (.iload_n 1, 1) := by decide +kernel
theorem eM_its_9 : decode prog_6_method_5_code 9 = .ok (.imul, 1) := by decide +kernel
theorem eM_its_10 : decode prog_6_method_5_code 10 = .ok (.iadd, 1) := by decide +kernel
theorem eM_its_11 : decode prog_6_method_5_code 11 = .ok (.iload_n 2, 1) := by decide +kernel
theorem eM_its_12 : decode prog_6_method_5_code 12 = .ok (.iadd, 1) := by decide +kernel
theorem eM_its_13 : decode prog_6_method_5_code 13 = .ok (.iaload, 1) := by decide +kernel
theorem eM_its_14 : decode prog_6_method_5_code 14 = .ok (.ireturn, 1) := by decide +kernel
theorem eM_isAwake_0 : decode prog_6_method_17_code 0 = .ok (.aload_n 0, 1) := by decide +kernel
theorem eM_isAwake_1 : decode prog_6_method_17_code 1 = .ok (.iload_n 1, 1) := by decide +kernel
theorem eM_isAwake_2 : decode prog_6_method_17_code 2 = .ok (.iconst 5, 1) := by decide +kernel
theorem eM_isAwake_3 : decode prog_6_method_17_code 3 = .ok (.invokevirtual 46, 3) := by decide +kernel
theorem eM_isAwake_6 : decode prog_6_method_17_code 6 = .ok (.aload_n 0, 1) := by decide +kernel
theorem eM_isAwake_7 : decode prog_6_method_17_code 7 = .ok (.getfield 7, 3) := by decide +kernel
theorem eM_isAwake_10 : decode prog_6_method_17_code 10 = .ok (.iconst 4, 1) := by decide +kernel
theorem eM_isAwake_11 : decode prog_6_method_17_code 11 = .ok (.iaload, 1) := by decide +kernel
theorem eM_isAwake_12 : decode prog_6_method_17_code 12 = .ok (.if_icmp .ge 7, 3) := by decide +kernel
theorem eM_isAwake_15 : decode prog_6_method_17_code 15 = .ok (.iconst 1, 1) := by decide +kernel
theorem eM_isAwake_16 : decode prog_6_method_17_code 16 = .ok (.goto 4, 3) := by decide +kernel
theorem eM_isAwake_19 : decode prog_6_method_17_code 19 = .ok (.iconst 0, 1) := by decide +kernel
theorem eM_isAwake_20 : decode prog_6_method_17_code 20 = .ok (.ireturn, 1) := by decide +kernel
theorem eM_tires_0 : decode prog_6_method_16_code 0 = .ok (.aload_n 0, 1) := by decide +kernel
theorem eM_tires_1 : decode prog_6_method_16_code 1 = .ok (.iload_n 1, 1) := by decide +kernel
theorem eM_tires_2 : decode prog_6_method_16_code 2 = .ok (.iconst 0, 1) := by decide +kernel
theorem eM_tires_3 : decode prog_6_method_16_code 3 = .ok (.invokevirtual 46, 3) := by decide +kernel
theorem eM_tires_6 : decode prog_6_method_16_code 6 = .ok (.istore_n 2, 1) := by decide +kernel
theorem eM_tires_7 : decode prog_6_method_16_code 7 = .ok (.iload_n 2, 1) := by decide +kernel
theorem eM_tires_8 : decode prog_6_method_16_code 8 = .ok (.iconst 4, 1) := by decide +kernel
theorem eM_tires_9 : decode prog_6_method_16_code 9 = .ok (.if_icmp .ne 7, 3) := by decide +kernel
theorem eM_tires_12 : decode prog_6_method_16_code 12 = .ok (.iconst 0, 1) := by decide +kernel
theorem eM_tires_13 : decode prog_6_method_16_code 13 = .ok (.goto 18, 3) := by decide +kernel
theorem eM_tires_16 : decode prog_6_method_16_code 16 = .ok (.iload_n 2, 1) := by decide +kernel
theorem eM_tires_17 : decode prog_6_method_16_code 17 = .ok (.iconst 3, 1) := by decide +kernel
theorem eM_tires_18 : decode prog_6_method_16_code 18 = .ok (.if_icmp .eq 8, 3) := by decide +kernel
theorem eM_tires_21 : decode prog_6_method_16_code 21 = .ok (.iload_n 2, 1) := by decide +kernel
theorem eM_tires_22 : decode prog_6_method_16_code 22 = .ok (.iconst 5, 1) := by decide +kernel
theorem eM_tires_23 : decode prog_6_method_16_code 23 = .ok (.if_icmp .ne 7, 3) := by decide +kernel
theorem eM_tires_26 : decode prog_6_method_16_code 26 = .ok (.iconst 2, 1) := by decide +kernel
theorem eM_tires_27 : decode prog_6_method_16_code 27 = .ok (.goto 4, 3) := by decide +kernel
theorem eM_tires_30 : decode prog_6_method_16_code 30 = .ok (.iconst 1, 1) := by decide +kernel
theorem eM_tires_31 : decode prog_6_method_16_code 31 = .ok (.ireturn, 1) := by decide +kernel
theorem eM_set_0 : decode prog_6_method_24_code 0 = .ok (.iload_n 2, 1) := by decide +kernel
theorem eM_set_1 : decode prog_6_method_24_code 1 = .ok (.iconst 1, 1) := by decide +kernel
theorem eM_set_2 : decode prog_6_method_24_code 2 = .ok (.if_icmp .eq 8, 3) := by decide +kernel
theorem eM_set_5 : decode prog_6_method_24_code 5 = .ok (.iload_n 2, 1) := by decide +kernel
theorem eM_set_6 : decode prog_6_method_24_code 6 = .ok (.iconst 2, 1) := by decide +kernel
theorem eM_set_7 : decode prog_6_method_24_code 7 = .ok (.if_icmp .ne 10, 3) := by decide +kernel
theorem eM_set_10 : decode prog_6_method_24_code 10 = .ok (.iload_n 3, 1) := by decide +kernel
theorem eM_set_11 : decode prog_6_method_24_code 11 = .ok (.invokestatic 69, 3) := by decide +kernel
theorem eM_set_14 : decode prog_6_method_24_code 14 = .ok (.goto 52, 3) := by decide +kernel
theorem eM_set_17 : decode prog_6_method_24_code 17 = .ok (.iload_n 2, 1) := by decide +kernel
theorem eM_set_18 : decode prog_6_method_24_code 18 = .ok (.iconst 3, 1) := by decide +kernel
theorem eM_set_19 : decode prog_6_method_24_code 19 = .ok (.if_icmp .ne 12, 3) := by decide +kernel
theorem eM_set_22 : decode prog_6_method_24_code 22 = .ok (.iload_n 3, 1) := by decide +kernel
theorem eM_set_23 : decode prog_6_method_24_code 23 = .ok (.iconst 0, 1) := by decide +kernel
theorem eM_set_24 : decode prog_6_method_24_code 24 = .ok (.iconst 3, 1) := by decide +kernel
theorem eM_set_25 : decode prog_6_method_24_code 25 = .ok (.invokestatic 42, 3) := by decide +kernel
theorem eM_set_28 : decode prog_6_method_24_code 28 = .ok (.goto 38, 3) := by decide +kernel
theorem eM_set_31 : decode prog_6_method_24_code 31 = .ok (.iload_n 2, 1) := by decide +kernel
theorem eM_set_32 : decode prog_6_method_24_code 32 = .ok (.iconst 4, 1) := by decide +kernel
theorem eM_set_33 : decode prog_6_method_24_code 33 = .ok (.if_icmp .ne 13, 3) := by decide +kernel
theorem eM_set_36 : decode prog_6_method_24_code 36 = .ok (.iload_n 3, 1) := by decide +kernel
theorem eM_set_37 : decode prog_6_method_24_code 37 = .ok (.iconst 0, 1) := by decide +kernel
theorem eM_set_38 : decode prog_6_method_24_code 38 = .ok (.ldc 89, 2) := by decide +kernel
theorem eM_set_40 : decode prog_6_method_24_code 40 = .ok (.invokestatic 42, 3) := by decide +kernel
theorem eM_set_43 : decode prog_6_method_24_code 43 = .ok (.goto 23, 3) := by decide +kernel
theorem eM_set_46 : decode prog_6_method_24_code 46 = .ok (.iload_n 2, 1) := by decide +kernel
theorem eM_set_47 : decode prog_6_method_24_code 47 = .ok (.iconst 5, 1) := by decide +kernel
theorem eM_set_48 : decode prog_6_method_24_code 48 = .ok (.if_icmp .ne 17, 3) := by decide +kernel
theorem eM_set_51 : decode prog_6_method_24_code 51 = .ok (.iload_n 3, 1) := by decide +kernel
theorem eM_set_52 : decode prog_6_method_24_code 52 = .ok (.iconst 0, 1) := by decide +kernel
theorem eM_set_53 : decode prog_6_method_24_code 53 = .ok (.bipush 99, 2) := by decide +kernel
theorem eM_set_55 : decode prog_6_method_24_code 55 = .ok (.invokestatic 42, 3) := by decide +kernel
theorem eM_set_58 : decode prog_6_method_24_code 58 = .ok (.ifCond .eq 7, 3) := by decide +kernel
theorem eM_set_61 : decode prog_6_method_24_code 61 = .ok (.iconst 1, 1) := by decide +kernel
theorem eM_set_62 : decode prog_6_method_24_code 62 = .ok (.goto 4, 3) := by decide +kernel
theorem eM_set_65 : decode prog_6_method_24_code 65 = .ok (.iconst 0, 1) := by decide +kernel
theorem eM_set_66 : decode prog_6_method_24_code 66 = .ok (.istore 4, 2) := by decide +kernel
theorem eM_set_68 : decode prog_6_method_24_code 68 = .ok (.aload_n 0, 1) := by decide +kernel
theorem eM_set_69 : decode prog_6_method_24_code 69 = .ok (.iload_n 1, 1) := by decide +kernel
theorem eM_set_70 : decode prog_6_method_24_code 70 = .ok (.invokevirtual 77, 3) := by decide +kernel
theorem eM_set_73 : decode prog_6_method_24_code 73 = .ok (.ifCond .eq 25, 3) := by decide +kernel
theorem eM_set_76 : decode prog_6_method_24_code 76 = .ok (.iload 4, 2) := by decide +kernel
theorem eM_set_78 : decode prog_6_method_24_code 78 = .ok (.ifCond .eq 20, 3) := by decide +kernel
theorem eM_set_81 : decode prog_6_method_24_code 81 = .ok (.aload_n 0, 1) := by decide +kernel
theorem eM_set_82 : decode prog_6_method_24_code 82 = .ok (.bipush 6, 2) := by decide +kernel
theorem eM_set_84 : decode prog_6_method_24_code 84 = .ok (.bipush 6, 2) := by decide +kernel
theorem eM_set_86 : decode prog_6_method_24_code 86 = .ok (.iload_n 1, 1) := by decide +kernel
theorem eM_set_87 : decode prog_6_method_24_code 87 = .ok (.imul, 1) := by decide +kernel
theorem eM_set_88 : decode prog_6_method_24_code 88 = .ok (.iadd, 1) := by decide +kernel
theorem eM_set_89 : decode prog_6_method_24_code 89 = .ok (.iload_n 2, 1) := by decide +kernel
theorem eM_set_90 : decode prog_6_method_24_code 90 = .ok (.iadd, 1) := by decide +kernel
theorem eM_set_91 : decode prog_6_method_24_code 91 = .ok (.iload_n 3, 1) := by decide +kernel
theorem eM_set_92 : decode prog_6_method_24_code 92 = .ok (.invokevirtual 54, 3) := by decide +kernel
theorem eM_set_95 : decode prog_6_method_24_code 95 = .ok (.goto 9, 3) := by decide +kernel
theorem eM_set_98 : decode prog_6_method_24_code 98 = .ok (.aload_n 0, 1) := by decide +kernel
theorem eM_set_99 : decode prog_6_method_24_code 99 = .ok (.ldc 41, 2) := by decide +kernel
theorem eM_set_101 : decode prog_6_method_24_code 101 = .ok (.invokevirtual 57, 3) := by decide +kernel
theorem eM_set_104 : decode prog_6_method_24_code 104 = .ok (.ireturn, 1) := by decide +kernel
theorem eM_turn_0 : decode prog_6_method_25_code 0 = .ok (.aload_n 0, 1) := by decide +kernel
theorem eM_turn_1 : decode prog_6_method_25_code 1 = .ok (.iload_n 1, 1) := by decide +kernel
theorem eM_turn_2 : decode prog_6_method_25_code 2 = .ok (.invokevirtual 77, 3) := by decide +kernel
theorem eM_turn_5 : decode prog_6_method_25_code 5 = .ok (.ifCond .eq 25, 3) := by decide +kernel
theorem eM_turn_8 : decode prog_6_method_25_code 8 = .ok (.iload_n 2, 1) := by decide +kernel
theorem eM_turn_9 : decode prog_6_method_25_code 9 = .ok (.invokestatic 65, 3) := by decide +kernel
theorem eM_turn_12 : decode prog_6_method_25_code 12 = .ok (.ifCond .eq 18, 3) := by decide +kernel
theorem eM_turn_15 : decode prog_6_method_25_code 15 = .ok (.aload_n 0, 1) := by decide +kernel
theorem eM_turn_16 : decode prog_6_method_25_code 16 = .ok (.bipush 6, 2) := by decide +kernel
theorem eM_turn_18 : decode prog_6_method_25_code 18 = .ok (.bipush 6, 2) := by decide +kernel
theorem eM_turn_20 : decode prog_6_method_25_code 20 = .ok (.iload_n 1, 1) := by decide +kernel
theorem eM_turn_21 : decode prog_6_method_25_code 21 = .ok (.imul, 1) := by decide +kernel
theorem eM_turn_22 : decode prog_6_method_25_code 22 = .ok (.iadd, 1) := by decide +kernel
theorem eM_turn_23 : decode prog_6_method_25_code 23 = .ok (.iload_n 2, 1) := by decide +kernel
theorem eM_turn_24 : decode prog_6_method_25_code 24 = .ok (.invokevirtual 54, 3) := by decide +kernel
theorem eM_turn_27 : decode prog_6_method_25_code 27 = .ok (.goto 9, 3) := by decide +kernel
theorem eM_turn_30 : decode prog_6_method_25_code 30 = .ok (.aload_n 0, 1) := by decide +kernel
theorem eM_turn_31 : decode prog_6_method_25_code 31 = .ok (.ldc 41, 2) := by decide +kernel
theorem eM_turn_33 : decode prog_6_method_25_code 33 = .ok (.invokevirtual 57, 3) := by decide +kernel
theorem eM_turn_36 : decode prog_6_method_25_code 36 = .ok (.ireturn, 1) := by decide +kernel
theorem eM_as_0 : decode prog_6_method_26_code 0 = .ok (.aload_n 0, 1) := by decide +kernel
theorem eM_as_1 : decode prog_6_method_26_code 1 = .ok (.iload_n 1, 1) := by decide +kernel
theorem eM_as_2 : decode prog_6_method_26_code 2 = .ok (.invokevirtual 77, 3) := by decide +kernel
theorem eM_as_5 : decode prog_6_method_26_code 5 = .ok (.ifCond .eq 10, 3) := by decide +kernel
theorem eM_as_8 : decode prog_6_method_26_code 8 = .ok (.iload_n 2, 1) := by decide +kernel
theorem eM_as_9 : decode prog_6_method_26_code 9 = .ok (.invokestatic 65, 3) := by decide +kernel
theorem eM_as_12 : decode prog_6_method_26_code 12 = .ok (.ifCond .ne 10, 3) := by decide +kernel
theorem eM_as_15 : decode prog_6_method_26_code 15 = .ok (.aload_n 0, 1) := by decide +kernel
theorem eM_as_16 : decode prog_6_method_26_code 16 = .ok (.ldc 41, 2) := by decide +kernel
theorem eM_as_18 : decode prog_6_method_26_code 18 = .ok (.invokevirtual 57, 3) := by decide +kernel
theorem eM_as_21 : decode prog_6_method_26_code 21 = .ok (.ireturn, 1) := by decide +kernel
theorem eM_as_22 : decode prog_6_method_26_code 22 = .ok (.aload_n 0, 1) := by decide +kernel
theorem eM_as_23 : decode prog_6_method_26_code 23 = .ok (.iload_n 1, 1) := by decide +kernel
theorem eM_as_24 : decode prog_6_method_26_code 24 = .ok (.iconst 0, 1) := by decide +kernel
theorem eM_as_25 : decode prog_6_method_26_code 25 = .ok (.invokevirtual 46, 3) := by decide +kernel
theorem eM_as_28 : decode prog_6_method_26_code 28 = .ok (.istore_n 3, 1) := by decide +kernel
theorem eM_as_29 : decode prog_6_method_26_code 29 = .ok (.iload_n 2, 1) := by decide +kernel
theorem eM_as_30 : decode prog_6_method_26_code 30 = .ok (.ifCond .eq 28, 3) := by decide +kernel
theorem eM_as_33 : decode prog_6_method_26_code 33 = .ok (.iload_n 2, 1) := by decide +kernel
theorem eM_as_34 : decode prog_6_method_26_code 34 = .ok (.iload_n 3, 1) := by decide +kernel
theorem eM_as_35 : decode prog_6_method_26_code 35 = .ok (.if_icmp .eq 23, 3) := by decide +kernel
theorem eM_as_38 : decode prog_6_method_26_code 38 = .ok (.iload_n 2, 1) := by decide +kernel
theorem eM_as_39 : decode prog_6_method_26_code 39 = .ok (.iconst 1, 1) := by decide +kernel
theorem eM_as_40 : decode prog_6_method_26_code 40 = .ok (.if_icmp .ne 8, 3) := by decide +kernel
theorem eM_as_43 : decode prog_6_method_26_code 43 = .ok (.iload_n 3, 1) := by decide +kernel
theorem eM_as_44 : decode prog_6_method_26_code 44 = .ok (.iconst 4, 1) := by decide +kernel
theorem eM_as_45 : decode prog_6_method_26_code 45 = .ok (.if_icmp .eq 13, 3) := by decide +kernel
theorem eM_as_48 : decode prog_6_method_26_code 48 = .ok (.iload_n 2, 1) := by decide +kernel
theorem eM_as_49 : decode prog_6_method_26_code 49 = .ok (.iconst 2, 1) := by decide +kernel
theorem eM_as_50 : decode prog_6_method_26_code 50 = .ok (.if_icmp .ne 12, 3) := by decide +kernel
theorem eM_as_53 : decode prog_6_method_26_code 53 = .ok (.iload_n 3, 1) := by decide +kernel
theorem eM_as_54 : decode prog_6_method_26_code 54 = .ok (.iconst 5, 1) := by decide +kernel
theorem eM_as_55 : decode prog_6_method_26_code 55 = .ok (.if_icmp .ne 7, 3) := by decide +kernel
theorem eM_as_58 : decode prog_6_method_26_code 58 = .ok (.iconst 1, 1) := by decide +kernel
theorem eM_as_59 : decode prog_6_method_26_code 59 = .ok (.goto 4, 3) := by decide +kernel
theorem eM_as_62 : decode prog_6_method_26_code 62 = .ok (.iconst 0, 1) := by decide +kernel
theorem eM_as_63 : decode prog_6_method_26_code 63 = .ok (.istore 4, 2) := by decide +kernel
theorem eM_as_65 : decode prog_6_method_26_code 65 = .ok (.iload 4, 2) := by decide +kernel
theorem eM_as_67 : decode prog_6_method_26_code 67 = .ok (.ifCond .eq 12, 3) := by decide +kernel
theorem eM_as_70 : decode prog_6_method_26_code 70 = .ok (.aload_n 0, 1) := by decide +kernel
theorem eM_as_71 : decode prog_6_method_26_code 71 = .ok (.iload_n 1, 1) := by decide +kernel
theorem eM_as_72 : decode prog_6_method_26_code 72 = .ok (.iconst 4, 1) := by decide +kernel
theorem eM_as_73 : decode prog_6_method_26_code 73 = .ok (.invokevirtual 46, 3) := by decide +kernel
theorem eM_as_76 : decode prog_6_method_26_code 76 = .ok (.goto 9, 3) := by decide +kernel
theorem eM_as_79 : decode prog_6_method_26_code 79 = .ok (.aload_n 0, 1) := by decide +kernel
theorem eM_as_80 : decode prog_6_method_26_code 80 = .ok (.ldc 90, 2) := by decide +kernel
theorem eM_as_82 : decode prog_6_method_26_code 82 = .ok (.invokevirtual 57, 3) := by decide +kernel
theorem eM_as_85 : decode prog_6_method_26_code 85 = .ok (.ireturn, 1) := by decide +kernel
theorem eM_hears_0 : decode prog_6_method_27_code 0 = .ok (.aload_n 0, 1) := by decide +kernel
theorem eM_hears_1 : decode prog_6_method_27_code 1 = .ok (.iload_n 1, 1) := by decide +kernel
theorem eM_hears_2 : decode prog_6_method_27_code 2 = .ok (.invokevirtual 77, 3) := by decide +kernel
theorem eM_hears_5 : decode prog_6_method_27_code 5 = .ok (.ifCond .eq 10, 3) := by decide +kernel
theorem eM_hears_8 : decode prog_6_method_27_code 8 = .ok (.iload_n 2, 1) := by decide +kernel
theorem eM_hears_9 : decode prog_6_method_27_code 9 = .ok (.invokestatic 91, 3) := by decide +kernel
theorem eM_hears_12 : decode prog_6_method_27_code 12 = .ok (.ifCond .ne 10, 3) := by decide +kernel
theorem eM_hears_15 : decode prog_6_method_27_code 15 = .ok (.aload_n 0, 1) := by decide +kernel
theorem eM_hears_16 : decode prog_6_method_27_code 16 = .ok (.ldc 41, 2) := by decide +kernel
theorem eM_hears_18 : decode prog_6_method_27_code 18 = .ok (.invokevirtual 57, 3) := by decide +kernel
theorem eM_hears_21 : decode prog_6_method_27_code 21 = .ok (.ireturn, 1) := by decide +kernel
theorem eM_hears_22 : decode prog_6_method_27_code 22 = .ok (.aload_n 0, 1) := by decide +kernel
theorem eM_hears_23 : decode prog_6_method_27_code 23 = .ok (.iload_n 1, 1) := by decide +kernel
theorem eM_hears_24 : decode prog_6_method_27_code 24 = .ok (.iload_n 2, 1) := by decide +kernel
theorem eM_hears_25 : decode prog_6_method_27_code 25 = .ok (.invokevirtual 94, 3) := by decide +kernel
theorem eM_hears_28 : decode prog_6_method_27_code 28 = .ok (.istore_n 3, 1) := by decide +kernel
theorem eM_hears_29 : decode prog_6_method_27_code 29 = .ok (.iload_n 3, 1) := by decide +kernel
theorem eM_hears_30 : decode prog_6_method_27_code 30 = .ok (.ifCond .ge 12, 3) := by decide +kernel
theorem eM_hears_33 : decode prog_6_method_27_code 33 = .ok (.aload_n 0, 1) := by decide +kernel
theorem eM_hears_34 : decode prog_6_method_27_code 34 = .ok (.ldc 97, 2) := by decide +kernel
theorem eM_hears_36 : decode prog_6_method_27_code 36 = .ok (.invokevirtual 57, 3) := by decide +kernel
theorem eM_hears_39 : decode prog_6_method_27_code 39 = .ok (.goto 4, 3) := by decide +kernel
theorem eM_hears_42 : decode prog_6_method_27_code 42 = .ok (.iload_n 3, 1) := by decide +kernel
theorem eM_hears_43 : decode prog_6_method_27_code 43 = .ok (.ireturn, 1) := by decide +kernel
theorem eM_isWordOf_0 : decode prog_6_method_10_code 0 = .ok (.iload_n 0, 1) := by decide +kernel
theorem eM_isWordOf_1 : decode prog_6_method_10_code 1 = .ok (.iconst 0, 1) := by decide +kernel
theorem eM_isWordOf_2 : decode prog_6_method_10_code 2 = .ok (.bipush 15, 2) := by decide +kernel
theorem eM_isWordOf_4 : decode prog_6_method_10_code 4 = .ok (.invokestatic 42, 3) := by decide +kernel
theorem eM_isWordOf_7 : decode prog_6_method_10_code 7 = .ok (.ireturn, 1) := by decide +kernel
theorem eM_heard_0 : decode prog_6_method_15_code 0 = .ok (.aload_n 0, 1) := by decide +kernel
theorem eM_heard_1 : decode prog_6_method_15_code 1 = .ok (.iload_n 1, 1) := by decide +kernel
theorem eM_heard_2 : decode prog_6_method_15_code 2 = .ok (.iconst 0, 1) := by decide +kernel
theorem eM_heard_3 : decode prog_6_method_15_code 3 = .ok (.invokevirtual 46, 3) := by decide +kernel
theorem eM_heard_6 : decode prog_6_method_15_code 6 = .ok (.tableswitch 62 2 5 #[30, 62, 34, 45], 30) := by decide +kernel
theorem eM_heard_36 : decode prog_6_method_15_code 36 = .ok (.iload_n 2, 1) := by decide +kernel
theorem eM_heard_37 : decode prog_6_method_15_code 37 = .ok (.iconst 1, 1) := by decide +kernel
theorem eM_heard_38 : decode prog_6_method_15_code 38 = .ok (.ixor, 1) := by decide +kernel
theorem eM_heard_39 : decode prog_6_method_15_code 39 = .ok (.ireturn, 1) := by decide +kernel
theorem eM_heard_40 : decode prog_6_method_15_code 40 = .ok (.iload_n 2, 1) := by decide +kernel
theorem eM_heard_41 : decode prog_6_method_15_code 41 = .ok (.iconst 4, 1) := by decide +kernel
theorem eM_heard_42 : decode prog_6_method_15_code 42 = .ok (.if_icmp .ge 7, 3) := by decide +kernel
theorem eM_heard_45 : decode prog_6_method_15_code 45 = .ok (.iconst (-1), 1) := by decide +kernel
theorem eM_heard_46 : decode prog_6_method_15_code 46 = .ok (.goto 4, 3) := by decide +kernel
theorem eM_heard_49 : decode prog_6_method_15_code 49 = .ok (.iload_n 2, 1) := by decide +kernel
theorem eM_heard_50 : decode prog_6_method_15_code 50 = .ok (.ireturn, 1) := by decide +kernel
theorem eM_heard_51 : decode prog_6_method_15_code 51 = .ok (.aload_n 0, 1) := by decide +kernel
theorem eM_heard_52 : decode prog_6_method_15_code 52 = .ok (.iload_n 1, 1) := by decide +kernel
theorem eM_heard_53 : decode prog_6_method_15_code 53 = .ok (.iconst 5, 1) := by decide +kernel
theorem eM_heard_54 : decode prog_6_method_15_code 54 = .ok (.invokevirtual 46, 3) := by decide +kernel
theorem eM_heard_57 : decode prog_6_method_15_code 57 = .ok (.ifCond .ne 7, 3) := by decide +kernel
theorem eM_heard_60 : decode prog_6_method_15_code 60 = .ok (.iload_n 2, 1) := by decide +kernel
theorem eM_heard_61 : decode prog_6_method_15_code 61 = .ok (.goto 6, 3) := by decide +kernel
theorem eM_heard_64 : decode prog_6_method_15_code 64 = .ok (.iload_n 2, 1) := by decide +kernel
theorem eM_heard_65 : decode prog_6_method_15_code 65 = .ok (.iconst 1, 1) := by decide +kernel
theorem eM_heard_66 : decode prog_6_method_15_code 66 = .ok (.ixor, 1) := by decide +kernel
theorem eM_heard_67 : decode prog_6_method_15_code 67 = .ok (.ireturn, 1) := by decide +kernel
theorem eM_heard_68 : decode prog_6_method_15_code 68 = .ok (.iload_n 2, 1) := by decide +kernel
theorem eM_heard_69 : decode prog_6_method_15_code 69 = .ok (.ireturn, 1) := by decide +kernel
theorem eM_say_0 : decode prog_6_method_29_code 0 = .ok (.iload_n 1, 1) := by decide +kernel
theorem eM_say_1 : decode prog_6_method_29_code 1 = .ok (.invokestatic 69, 3) := by decide +kernel
theorem eM_say_4 : decode prog_6_method_29_code 4 = .ok (.ifCond .eq 19, 3) := by decide +kernel
theorem eM_say_7 : decode prog_6_method_29_code 7 = .ok (.iload_n 2, 1) := by decide +kernel
theorem eM_say_8 : decode prog_6_method_29_code 8 = .ok (.invokestatic 91, 3) := by decide +kernel
theorem eM_say_11 : decode prog_6_method_29_code 11 = .ok (.ifCond .eq 12, 3) := by decide +kernel
theorem eM_say_14 : decode prog_6_method_29_code 14 = .ok (.aload_n 0, 1) := by decide +kernel
theorem eM_say_15 : decode prog_6_method_29_code 15 = .ok (.iload_n 1, 1) := by decide +kernel
theorem eM_say_16 : decode prog_6_method_29_code 16 = .ok (.iload_n 2, 1) := by decide +kernel
theorem eM_say_17 : decode prog_6_method_29_code 17 = .ok (.invokevirtual 108, 3) := by decide +kernel
theorem eM_say_20 : decode prog_6_method_29_code 20 = .ok (.goto 9, 3) := by decide +kernel
theorem eM_say_23 : decode prog_6_method_29_code 23 = .ok (.aload_n 0, 1) := by decide +kernel
theorem eM_say_24 : decode prog_6_method_29_code 24 = .ok (.ldc 41, 2) := by decide +kernel
theorem eM_say_26 : decode prog_6_method_29_code 26 = .ok (.invokevirtual 57, 3) := by decide +kernel
theorem eM_say_29 : decode prog_6_method_29_code 29 = .ok (.ireturn, 1) := by decide +kernel
theorem eM_saidIn_0 : decode prog_6_method_28_code 0 = .ok (.aload_n 0, 1) := by decide +kernel
theorem eM_saidIn_1 : decode prog_6_method_28_code 1 = .ok (.iload_n 1, 1) := by decide +kernel
theorem eM_saidIn_2 : decode prog_6_method_28_code 2 = .ok (.invokevirtual 98, 3) := by decide +kernel
theorem eM_saidIn_5 : decode prog_6_method_28_code 5 = .ok (.istore_n 3, 1) := by decide +kernel
theorem eM_saidIn_6 : decode prog_6_method_28_code 6 = .ok (.iconst 0, 1) := by decide +kernel
theorem eM_saidIn_7 : decode prog_6_method_28_code 7 = .ok (.istore 4, 2) := by decide +kernel
theorem eM_saidIn_9 : decode prog_6_method_28_code 9 = .ok (.iconst 0, 1) := by decide +kernel
theorem eM_saidIn_10 : decode prog_6_method_28_code 10 = .ok (.istore 5, 2) := by decide +kernel
theorem eM_saidIn_12 : decode prog_6_method_28_code 12 = .ok (.iload 5, 2) := by decide +kernel
theorem eM_saidIn_14 : decode prog_6_method_28_code 14 = .ok (.aload_n 0, 1) := by decide +kernel
theorem eM_saidIn_15 : decode prog_6_method_28_code 15 = .ok (.getfield 7, 3) := by decide +kernel
theorem eM_saidIn_18 : decode prog_6_method_28_code 18 = .ok (.iconst 5, 1) := by decide +kernel
theorem eM_saidIn_19 : decode prog_6_method_28_code 19 = .ok (.iaload, 1) := by decide +kernel
theorem eM_saidIn_20 : decode prog_6_method_28_code 20 = .ok (.if_icmp .ge 116, 3) := by decide +kernel
theorem eM_saidIn_23 : decode prog_6_method_28_code 23 = .ok (.aload_n 0, 1) := by decide +kernel
theorem eM_saidIn_24 : decode prog_6_method_28_code 24 = .ok (.iload 5, 2) := by decide +kernel
theorem eM_saidIn_26 : decode prog_6_method_28_code 26 = .ok (.iload_n 3, 1) := by decide +kernel
theorem eM_saidIn_27 : decode prog_6_method_28_code 27 = .ok (.invokevirtual 101, 3) := by decide +kernel
theorem eM_saidIn_30 : decode prog_6_method_28_code 30 = .ok (.ifCond .eq 37, 3) := by decide +kernel
theorem eM_saidIn_33 : decode prog_6_method_28_code 33 = .ok (.aload_n 0, 1) := by decide +kernel
theorem eM_saidIn_34 : decode prog_6_method_28_code 34 = .ok (.iload 5, 2) := by decide +kernel
theorem eM_saidIn_36 : decode prog_6_method_28_code 36 = .ok (.aload_n 0, 1) := by decide +kernel
theorem eM_saidIn_37 : decode prog_6_method_28_code 37 = .ok (.getfield 7, 3) := by decide +kernel
theorem eM_saidIn_40 : decode prog_6_method_28_code 40 = .ok (.iconst 0, 1) := by decide +kernel
theorem eM_saidIn_41 : decode prog_6_method_28_code 41 = .ok (.iaload, 1) := by decide +kernel
theorem eM_saidIn_42 : decode prog_6_method_28_code 42 = .ok (.invokevirtual 80, 3) := by decide +kernel
theorem eM_saidIn_45 : decode prog_6_method_28_code 45 = .ok (.ifCond .eq 22, 3) := by decide +kernel
theorem eM_saidIn_48 : decode prog_6_method_28_code 48 = .ok (.aload_n 0, 1) := by decide +kernel
theorem eM_saidIn_49 : decode prog_6_method_28_code 49 = .ok (.iload 5, 2) := by decide +kernel
theorem eM_saidIn_51 : decode prog_6_method_28_code 51 = .ok (.invokevirtual 83, 3) := by decide +kernel
theorem eM_saidIn_54 : decode prog_6_method_28_code 54 = .ok (.ifCond .eq 13, 3) := by decide +kernel
theorem eM_saidIn_57 : decode prog_6_method_28_code 57 = .ok (.aload_n 0, 1) := by decide +kernel
theorem eM_saidIn_58 : decode prog_6_method_28_code 58 = .ok (.iload 5, 2) := by decide +kernel
theorem eM_saidIn_60 : decode prog_6_method_28_code 60 = .ok (.iload_n 2, 1) := by decide +kernel
theorem eM_saidIn_61 : decode prog_6_method_28_code 61 = .ok (.invokevirtual 94, 3) := by decide +kernel
theorem eM_saidIn_64 : decode prog_6_method_28_code 64 = .ok (.goto 4, 3) := by decide +kernel
theorem eM_saidIn_67 : decode prog_6_method_28_code 67 = .ok (.iconst (-1), 1) := by decide +kernel
theorem eM_saidIn_68 : decode prog_6_method_28_code 68 = .ok (.istore 6, 2) := by decide +kernel
theorem eM_saidIn_70 : decode prog_6_method_28_code 70 = .ok (.iload 6, 2) := by decide +kernel
theorem eM_saidIn_72 : decode prog_6_method_28_code 72 = .ok (.ifCond .lt 58, 3) := by decide +kernel
theorem eM_saidIn_75 : decode prog_6_method_28_code 75 = .ok (.iload 4, 2) := by decide +kernel
theorem eM_saidIn_77 : decode prog_6_method_28_code 77 = .ok (.iconst 1, 1) := by decide +kernel
theorem eM_saidIn_78 : decode prog_6_method_28_code 78 = .ok (.iload 5, 2) := by decide +kernel
theorem eM_saidIn_80 : decode prog_6_method_28_code 80 = .ok (.ishl, 1) := by decide +kernel
theorem eM_saidIn_81 : decode prog_6_method_28_code 81 = .ok (.ior, 1) := by decide +kernel
theorem eM_saidIn_82 : decode prog_6_method_28_code 82 = .ok (.istore 4, 2) := by decide +kernel
theorem eM_saidIn_84 : decode prog_6_method_28_code 84 = .ok (.aload_n 0, 1) := by decide +kernel
theorem eM_saidIn_85 : decode prog_6_method_28_code 85 = .ok (.iload 5, 2) := by decide +kernel
theorem eM_saidIn_87 : decode prog_6_method_28_code 87 = .ok (.iconst 4, 1) := by decide +kernel
theorem eM_saidIn_88 : decode prog_6_method_28_code 88 = .ok (.aload_n 0, 1) := by decide +kernel
theorem eM_saidIn_89 : decode prog_6_method_28_code 89 = .ok (.iload 5, 2) := by decide +kernel
theorem eM_saidIn_91 : decode prog_6_method_28_code 91 = .ok (.iconst 4, 1) := by decide +kernel
theorem eM_saidIn_92 : decode prog_6_method_28_code 92 = .ok (.invokevirtual 46, 3) := by decide +kernel
theorem eM_saidIn_95 : decode prog_6_method_28_code 95 = .ok (.iconst 1, 1) := by decide +kernel
theorem eM_saidIn_96 : decode prog_6_method_28_code 96 = .ok (.iload 6, 2) := by decide +kernel
theorem eM_saidIn_98 : decode prog_6_method_28_code 98 = .ok (.ishl, 1) := by decide +kernel
theorem eM_saidIn_99 : decode prog_6_method_28_code 99 = .ok (.ior, 1) := by decide +kernel
theorem eM_saidIn_100 : decode prog_6_method_28_code 100 = .ok (.invokevirtual 61, 3) := by decide +kernel
theorem eM_saidIn_103 : decode prog_6_method_28_code 103 = .ok (.aload_n 0, 1) := by decide +kernel
theorem eM_saidIn_104 : decode prog_6_method_28_code 104 = .ok (.iload 5, 2) := by decide +kernel
theorem eM_saidIn_106 : decode prog_6_method_28_code 106 = .ok (.iconst 5, 1) := by decide +kernel
theorem eM_saidIn_107 : decode prog_6_method_28_code 107 = .ok (.aload_n 0, 1) := by decide +kernel
theorem eM_saidIn_108 : decode prog_6_method_28_code 108 = .ok (.iload 5, 2) := by decide +kernel
theorem eM_saidIn_110 : decode prog_6_method_28_code 110 = .ok (.iconst 5, 1) := by decide +kernel
theorem eM_saidIn_111 : decode prog_6_method_28_code 111 = .ok (.invokevirtual 46, 3) := by decide +kernel
theorem eM_saidIn_114 : decode prog_6_method_28_code 114 = .ok (.aload_n 0, 1) := by decide +kernel
theorem eM_saidIn_115 : decode prog_6_method_28_code 115 = .ok (.iload 5, 2) := by decide +kernel
theorem eM_saidIn_117 : decode prog_6_method_28_code 117 = .ok (.invokevirtual 86, 3) := by decide +kernel
theorem eM_saidIn_120 : decode prog_6_method_28_code 120 = .ok (.iadd, 1) := by decide +kernel
theorem eM_saidIn_121 : decode prog_6_method_28_code 121 = .ok (.iconst 0, 1) := by decide +kernel
theorem eM_saidIn_122 : decode prog_6_method_28_code 122 = .ok (.bipush 99, 2) := by decide +kernel
theorem eM_saidIn_124 : decode prog_6_method_28_code 124 = .ok (.invokestatic 104, 3) := by decide +kernel
theorem eM_saidIn_127 : decode prog_6_method_28_code 127 = .ok (.invokevirtual 61, 3) := by decide +kernel
theorem eM_saidIn_130 : decode prog_6_method_28_code 130 = .ok (.iinc 5 1, 3) := by decide +kernel
theorem eM_saidIn_133 : decode prog_6_method_28_code 133 = .ok (.goto (-121), 3) := by decide +kernel
theorem eM_saidIn_136 : decode prog_6_method_28_code 136 = .ok (.iload 4, 2) := by decide +kernel
theorem eM_saidIn_138 : decode prog_6_method_28_code 138 = .ok (.ireturn, 1) := by decide +kernel
theorem eM_reachOf_0 : decode prog_6_method_18_code 0 = .ok (.iconst 1, 1) := by decide +kernel
theorem eM_reachOf_1 : decode prog_6_method_18_code 1 = .ok (.iload_n 1, 1) := by decide +kernel
theorem eM_reachOf_2 : decode prog_6_method_18_code 2 = .ok (.ishl, 1) := by decide +kernel
theorem eM_reachOf_3 : decode prog_6_method_18_code 3 = .ok (.istore_n 2, 1) := by decide +kernel
theorem eM_reachOf_4 : decode prog_6_method_18_code 4 = .ok (.iconst 0, 1) := by decide +kernel
theorem eM_reachOf_5 : decode prog_6_method_18_code 5 = .ok (.istore_n 3, 1) := by decide +kernel
theorem eM_reachOf_6 : decode prog_6_method_18_code 6 = .ok (.iload_n 3, 1) := by decide +kernel
theorem eM_reachOf_7 : decode prog_6_method_18_code 7 = .ok (.bipush 10, 2) := by decide +kernel
theorem eM_reachOf_9 : decode prog_6_method_18_code 9 = .ok (.if_icmp .ge 90, 3) := by decide +kernel
theorem eM_reachOf_12 : decode prog_6_method_18_code 12 = .ok (.iconst 0, 1) := by decide +kernel
theorem eM_reachOf_13 : decode prog_6_method_18_code 13 = .ok (.istore 4, 2) := by decide +kernel
theorem eM_reachOf_15 : decode prog_6_method_18_code 15 = .ok (.iload 4, 2) := by decide +kernel
theorem eM_reachOf_17 : decode prog_6_method_18_code 17 = .ok (.aload_n 0, 1) := by decide +kernel
theorem eM_reachOf_18 : decode prog_6_method_18_code 18 = .ok (.getfield 7, 3) := by decide +kernel
theorem eM_reachOf_21 : decode prog_6_method_18_code 21 = .ok (.iconst 5, 1) := by decide +kernel
theorem eM_reachOf_22 : decode prog_6_method_18_code 22 = .ok (.iaload, 1) := by decide +kernel
theorem eM_reachOf_23 : decode prog_6_method_18_code 23 = .ok (.if_icmp .ge 70, 3) := by decide +kernel
theorem eM_reachOf_26 : decode prog_6_method_18_code 26 = .ok (.aload_n 0, 1) := by decide +kernel
theorem eM_reachOf_27 : decode prog_6_method_18_code 27 = .ok (.iload 4, 2) := by decide +kernel
theorem eM_reachOf_29 : decode prog_6_method_18_code 29 = .ok (.iconst 0, 1) := by decide +kernel
theorem eM_reachOf_30 : decode prog_6_method_18_code 30 = .ok (.invokevirtual 46, 3) := by decide +kernel
theorem eM_reachOf_33 : decode prog_6_method_18_code 33 = .ok (.iconst 3, 1) := by decide +kernel
theorem eM_reachOf_34 : decode prog_6_method_18_code 34 = .ok (.if_icmp .ne 53, 3) := by decide +kernel
theorem eM_reachOf_37 : decode prog_6_method_18_code 37 = .ok (.iload_n 2, 1) := by decide +kernel
theorem eM_reachOf_38 : decode prog_6_method_18_code 38 = .ok (.aload_n 0, 1) := by decide +kernel
theorem eM_reachOf_39 : decode prog_6_method_18_code 39 = .ok (.iload 4, 2) := by decide +kernel
theorem eM_reachOf_41 : decode prog_6_method_18_code 41 = .ok (.iconst 1, 1) := by decide +kernel
theorem eM_reachOf_42 : decode prog_6_method_18_code 42 = .ok (.invokevirtual 46, 3) := by decide +kernel
theorem eM_reachOf_45 : decode prog_6_method_18_code 45 = .ok (.invokestatic 50, 3) := by decide +kernel
theorem eM_reachOf_48 : decode prog_6_method_18_code 48 = .ok (.ifCond .ne 17, 3) := by decide +kernel
theorem eM_reachOf_51 : decode prog_6_method_18_code 51 = .ok (.iload_n 2, 1) := by decide +kernel
theorem eM_reachOf_52 : decode prog_6_method_18_code 52 = .ok (.aload_n 0, 1) := by decide +kernel
theorem eM_reachOf_53 : decode prog_6_method_18_code 53 = .ok (.iload 4, 2) := by decide +kernel
theorem eM_reachOf_55 : decode prog_6_method_18_code 55 = .ok (.iconst 2, 1) := by decide +kernel
theorem eM_reachOf_56 : decode prog_6_method_18_code 56 = .ok (.invokevirtual 46, 3) := by decide +kernel
theorem eM_reachOf_59 : decode prog_6_method_18_code 59 = .ok (.invokestatic 50, 3) := by decide +kernel
theorem eM_reachOf_62 : decode prog_6_method_18_code 62 = .ok (.ifCond .eq 25, 3) := by decide +kernel
theorem eM_reachOf_65 : decode prog_6_method_18_code 65 = .ok (.iload_n 2, 1) := by decide +kernel
theorem eM_reachOf_66 : decode prog_6_method_18_code 66 = .ok (.iconst 1, 1) := by decide +kernel
theorem eM_reachOf_67 : decode prog_6_method_18_code 67 = .ok (.aload_n 0, 1) := by decide +kernel
theorem eM_reachOf_68 : decode prog_6_method_18_code 68 = .ok (.iload 4, 2) := by decide +kernel
theorem eM_reachOf_70 : decode prog_6_method_18_code 70 = .ok (.iconst 1, 1) := by decide +kernel
theorem eM_reachOf_71 : decode prog_6_method_18_code 71 = .ok (.invokevirtual 46, 3) := by decide +kernel
theorem eM_reachOf_74 : decode prog_6_method_18_code 74 = .ok (.ishl, 1) := by decide +kernel
theorem eM_reachOf_75 : decode prog_6_method_18_code 75 = .ok (.iconst 1, 1) := by decide +kernel
theorem eM_reachOf_76 : decode prog_6_method_18_code 76 = .ok (.aload_n 0, 1) := by decide +kernel
theorem eM_reachOf_77 : decode prog_6_method_18_code 77 = .ok (.iload 4, 2) := by decide +kernel
theorem eM_reachOf_79 : decode prog_6_method_18_code 79 = .ok (.iconst 2, 1) := by decide +kernel
theorem eM_reachOf_80 : decode prog_6_method_18_code 80 = .ok (.invokevirtual 46, 3) := by decide +kernel
theorem eM_reachOf_83 : decode prog_6_method_18_code 83 = .ok (.ishl, 1) := by decide +kernel
theorem eM_reachOf_84 : decode prog_6_method_18_code 84 = .ok (.ior, 1) := by decide +kernel
theorem eM_reachOf_85 : decode prog_6_method_18_code 85 = .ok (.ior, 1) := by decide +kernel
theorem eM_reachOf_86 : decode prog_6_method_18_code 86 = .ok (.istore_n 2, 1) := by decide +kernel
theorem eM_reachOf_87 : decode prog_6_method_18_code 87 = .ok (.iinc 4 1, 3) := by decide +kernel
theorem eM_reachOf_90 : decode prog_6_method_18_code 90 = .ok (.goto (-75), 3) := by decide +kernel
theorem eM_reachOf_93 : decode prog_6_method_18_code 93 = .ok (.iinc 3 1, 3) := by decide +kernel
theorem eM_reachOf_96 : decode prog_6_method_18_code 96 = .ok (.goto (-90), 3) := by decide +kernel
theorem eM_reachOf_99 : decode prog_6_method_18_code 99 = .ok (.iload_n 2, 1) := by decide +kernel
theorem eM_reachOf_100 : decode prog_6_method_18_code 100 = .ok (.ireturn, 1) := by decide +kernel
theorem eM_has_0 : decode prog_6_method_12_code 0 = .ok (.iload_n 0, 1) := by decide +kernel
theorem eM_has_1 : decode prog_6_method_12_code 1 = .ok (.iload_n 1, 1) := by decide +kernel
theorem eM_has_2 : decode prog_6_method_12_code 2 = .ok (.ishr, 1) := by decide +kernel
theorem eM_has_3 : decode prog_6_method_12_code 3 = .ok (.iconst 1, 1) := by decide +kernel
theorem eM_has_4 : decode prog_6_method_12_code 4 = .ok (.iand, 1) := by decide +kernel
theorem eM_has_5 : decode prog_6_method_12_code 5 = .ok (.iconst 1, 1) := by decide +kernel
theorem eM_has_6 : decode prog_6_method_12_code 6 = .ok (.if_icmp .ne 7, 3) := by decide +kernel
theorem eM_has_9 : decode prog_6_method_12_code 9 = .ok (.iconst 1, 1) := by decide +kernel
theorem eM_has_10 : decode prog_6_method_12_code 10 = .ok (.goto 4, 3) := by decide +kernel
theorem eM_has_13 : decode prog_6_method_12_code 13 = .ok (.iconst 0, 1) := by decide +kernel
theorem eM_has_14 : decode prog_6_method_12_code 14 = .ok (.ireturn, 1) := by decide +kernel
theorem eM_isAt_0 : decode prog_6_method_19_code 0 = .ok (.iload_n 2, 1) := by decide +kernel
theorem eM_isAt_1 : decode prog_6_method_19_code 1 = .ok (.aload_n 0, 1) := by decide +kernel
theorem eM_isAt_2 : decode prog_6_method_19_code 2 = .ok (.iload_n 1, 1) := by decide +kernel
theorem eM_isAt_3 : decode prog_6_method_19_code 3 = .ok (.iconst 1, 1) := by decide +kernel
theorem eM_isAt_4 : decode prog_6_method_19_code 4 = .ok (.invokevirtual 46, 3) := by decide +kernel
theorem eM_isAt_7 : decode prog_6_method_19_code 7 = .ok (.invokestatic 50, 3) := by decide +kernel
theorem eM_isAt_10 : decode prog_6_method_19_code 10 = .ok (.ifCond .ne 16, 3) := by decide +kernel
theorem eM_isAt_13 : decode prog_6_method_19_code 13 = .ok (.iload_n 2, 1) := by decide +kernel
theorem eM_isAt_14 : decode prog_6_method_19_code 14 = .ok (.aload_n 0, 1) := by decide +kernel
theorem eM_isAt_15 : decode prog_6_method_19_code 15 = .ok (.iload_n 1, 1) := by decide +kernel
theorem eM_isAt_16 : decode prog_6_method_19_code 16 = .ok (.iconst 2, 1) := by decide +kernel
theorem eM_isAt_17 : decode prog_6_method_19_code 17 = .ok (.invokevirtual 46, 3) := by decide +kernel
theorem eM_isAt_20 : decode prog_6_method_19_code 20 = .ok (.invokestatic 50, 3) := by decide +kernel
theorem eM_isAt_23 : decode prog_6_method_19_code 23 = .ok (.ifCond .eq 7, 3) := by decide +kernel
theorem eM_isAt_26 : decode prog_6_method_19_code 26 = .ok (.iconst 1, 1) := by decide +kernel
theorem eM_isAt_27 : decode prog_6_method_19_code 27 = .ok (.goto 4, 3) := by decide +kernel
theorem eM_isAt_30 : decode prog_6_method_19_code 30 = .ok (.iconst 0, 1) := by decide +kernel
theorem eM_isAt_31 : decode prog_6_method_19_code 31 = .ok (.ireturn, 1) := by decide +kernel
theorem eM_held_0 : decode prog_6_method_4_code 0 = .ok (.iload_n 0, 1) := by decide +kernel
theorem eM_held_1 : decode prog_6_method_4_code 1 = .ok (.iload_n 1, 1) := by decide +kernel
theorem eM_held_2 : decode prog_6_method_4_code 2 = .ok (.if_icmp .ge 7, 3) := by decide +kernel
theorem eM_held_5 : decode prog_6_method_4_code 5 = .ok (.iload_n 1, 1) := by decide +kernel
theorem eM_held_6 : decode prog_6_method_4_code 6 = .ok (.goto 13, 3) := by decide +kernel
theorem eM_held_9 : decode prog_6_method_4_code 9 = .ok (.iload_n 0, 1) := by decide +kernel
theorem eM_held_10 : decode prog_6_method_4_code 10 = .ok (.iload_n 2, 1) := by decide +kernel
theorem eM_held_11 : decode prog_6_method_4_code 11 = .ok (.if_icmp .le 7, 3) := by decide +kernel
theorem eM_held_14 : decode prog_6_method_4_code 14 = .ok (.iload_n 2, 1) := by decide +kernel
theorem eM_held_15 : decode prog_6_method_4_code 15 = .ok (.goto 4, 3) := by decide +kernel
theorem eM_held_18 : decode prog_6_method_4_code 18 = .ok (.iload_n 0, 1) := by decide +kernel
theorem eM_held_19 : decode prog_6_method_4_code 19 = .ok (.ireturn, 1) := by decide +kernel
theorem eM_pass_0 : decode prog_6_method_31_code 0 = .ok (.iload_n 1, 1) := by decide +kernel
theorem eM_pass_1 : decode prog_6_method_31_code 1 = .ok (.iconst 1, 1) := by decide +kernel
theorem eM_pass_2 : decode prog_6_method_31_code 2 = .ok (.sipush 240, 3) := by decide +kernel
theorem eM_pass_5 : decode prog_6_method_31_code 5 = .ok (.invokestatic 42, 3) := by decide +kernel
theorem eM_pass_8 : decode prog_6_method_31_code 8 = .ok (.ifCond .ne 10, 3) := by decide +kernel
theorem eM_pass_11 : decode prog_6_method_31_code 11 = .ok (.aload_n 0, 1) := by decide +kernel
theorem eM_pass_12 : decode prog_6_method_31_code 12 = .ok (.ldc 41, 2) := by decide +kernel
theorem eM_pass_14 : decode prog_6_method_31_code 14 = .ok (.invokevirtual 57, 3) := by decide +kernel
theorem eM_pass_17 : decode prog_6_method_31_code 17 = .ok (.ireturn, 1) := by decide +kernel
theorem eM_pass_18 : decode prog_6_method_31_code 18 = .ok (.aload_n 0, 1) := by decide +kernel
theorem eM_pass_19 : decode prog_6_method_31_code 19 = .ok (.getfield 7, 3) := by decide +kernel
theorem eM_pass_22 : decode prog_6_method_31_code 22 = .ok (.iconst 0, 1) := by decide +kernel
theorem eM_pass_23 : decode prog_6_method_31_code 23 = .ok (.iaload, 1) := by decide +kernel
theorem eM_pass_24 : decode prog_6_method_31_code 24 = .ok (.iload_n 1, 1) := by decide +kernel
theorem eM_pass_25 : decode prog_6_method_31_code 25 = .ok (.iadd, 1) := by decide +kernel
theorem eM_pass_26 : decode prog_6_method_31_code 26 = .ok (.ldc 111, 2) := by decide +kernel
theorem eM_pass_28 : decode prog_6_method_31_code 28 = .ok (.if_icmp .le 10, 3) := by decide +kernel
theorem eM_pass_31 : decode prog_6_method_31_code 31 = .ok (.aload_n 0, 1) := by decide +kernel
theorem eM_pass_32 : decode prog_6_method_31_code 32 = .ok (.ldc 112, 2) := by decide +kernel
theorem eM_pass_34 : decode prog_6_method_31_code 34 = .ok (.invokevirtual 57, 3) := by decide +kernel
theorem eM_pass_37 : decode prog_6_method_31_code 37 = .ok (.ireturn, 1) := by decide +kernel
theorem eM_pass_38 : decode prog_6_method_31_code 38 = .ok (.iconst 0, 1) := by decide +kernel
theorem eM_pass_39 : decode prog_6_method_31_code 39 = .ok (.istore_n 2, 1) := by decide +kernel
theorem eM_pass_40 : decode prog_6_method_31_code 40 = .ok (.iload_n 2, 1) := by decide +kernel
theorem eM_pass_41 : decode prog_6_method_31_code 41 = .ok (.iload_n 1, 1) := by decide +kernel
theorem eM_pass_42 : decode prog_6_method_31_code 42 = .ok (.if_icmp .ge 13, 3) := by decide +kernel
theorem eM_pass_45 : decode prog_6_method_31_code 45 = .ok (.aload_n 0, 1) := by decide +kernel
theorem eM_pass_46 : decode prog_6_method_31_code 46 = .ok (.invokevirtual 113, 3) := by decide +kernel
theorem eM_pass_49 : decode prog_6_method_31_code 49 = .ok (.iinc 2 1, 3) := by decide +kernel
theorem eM_pass_52 : decode prog_6_method_31_code 52 = .ok (.goto (-12), 3) := by decide +kernel
theorem eM_pass_55 : decode prog_6_method_31_code 55 = .ok (.aload_n 0, 1) := by decide +kernel
theorem eM_pass_56 : decode prog_6_method_31_code 56 = .ok (.getfield 7, 3) := by decide +kernel
theorem eM_pass_59 : decode prog_6_method_31_code 59 = .ok (.iconst 0, 1) := by decide +kernel
theorem eM_pass_60 : decode prog_6_method_31_code 60 = .ok (.iaload, 1) := by decide +kernel
theorem eM_pass_61 : decode prog_6_method_31_code 61 = .ok (.ireturn, 1) := by decide +kernel
theorem eM_oneMinute_0 : decode prog_6_method_30_code 0 = .ok (.aload_n 0, 1) := by decide +kernel
theorem eM_oneMinute_1 : decode prog_6_method_30_code 1 = .ok (.getfield 7, 3) := by decide +kernel
theorem eM_oneMinute_4 : decode prog_6_method_30_code 4 = .ok (.iconst 0, 1) := by decide +kernel
theorem eM_oneMinute_5 : decode prog_6_method_30_code 5 = .ok (.dup2, 1) := by decide +kernel
theorem eM_oneMinute_6 : decode prog_6_method_30_code 6 = .ok (.iaload, 1) := by decide +kernel
theorem eM_oneMinute_7 : decode prog_6_method_30_code 7 = .ok (.iconst 1, 1) := by decide +kernel
theorem eM_oneMinute_8 : decode prog_6_method_30_code 8 = .ok (.iadd, 1) := by decide +kernel
theorem eM_oneMinute_9 : decode prog_6_method_30_code 9 = .ok (.iastore, 1) := by decide +kernel
theorem eM_oneMinute_10 : decode prog_6_method_30_code 10 = .ok (.aload_n 0, 1) := by decide +kernel
theorem eM_oneMinute_11 : decode prog_6_method_30_code 11 = .ok (.getfield 7, 3) := by decide +kernel
theorem eM_oneMinute_14 : decode prog_6_method_30_code 14 = .ok (.iconst 0, 1) := by decide +kernel
theorem eM_oneMinute_15 : decode prog_6_method_30_code 15 = .ok (.iaload, 1) := by decide +kernel
theorem eM_oneMinute_16 : decode prog_6_method_30_code 16 = .ok (.istore_n 1, 1) := by decide +kernel
theorem eM_oneMinute_17 : decode prog_6_method_30_code 17 = .ok (.iconst 0, 1) := by decide +kernel
theorem eM_oneMinute_18 : decode prog_6_method_30_code 18 = .ok (.istore_n 2, 1) := by decide +kernel
theorem eM_oneMinute_19 : decode prog_6_method_30_code 19 = .ok (.iload_n 2, 1) := by decide +kernel
theorem eM_oneMinute_20 : decode prog_6_method_30_code 20 = .ok (.aload_n 0, 1) := by decide +kernel
theorem eM_oneMinute_21 : decode prog_6_method_30_code 21 = .ok (.getfield 7, 3) := by decide +kernel
theorem eM_oneMinute_24 : decode prog_6_method_30_code 24 = .ok (.iconst 5, 1) := by decide +kernel
theorem eM_oneMinute_25 : decode prog_6_method_30_code 25 = .ok (.iaload, 1) := by decide +kernel
theorem eM_oneMinute_26 : decode prog_6_method_30_code 26 = .ok (.if_icmp .ge 55, 3) := by decide +kernel
theorem eM_oneMinute_29 : decode prog_6_method_30_code 29 = .ok (.iload_n 1, 1) := by decide +kernel
theorem eM_oneMinute_30 : decode prog_6_method_30_code 30 = .ok (.aload_n 0, 1) := by decide +kernel
theorem eM_oneMinute_31 : decode prog_6_method_30_code 31 = .ok (.getfield 7, 3) := by decide +kernel
theorem eM_oneMinute_34 : decode prog_6_method_30_code 34 = .ok (.iconst 1, 1) := by decide +kernel
theorem eM_oneMinute_35 : decode prog_6_method_30_code 35 = .ok (.iaload, 1) := by decide +kernel
theorem eM_oneMinute_36 : decode prog_6_method_30_code 36 = .ok (.irem, 1) := by decide +kernel
theorem eM_oneMinute_37 : decode prog_6_method_30_code 37 = .ok (.ifCond .ne 44, 3) := by decide +kernel
theorem eM_oneMinute_40 : decode prog_6_method_30_code 40 = .ok (.aload_n 0, 1) := by decide +kernel
theorem eM_oneMinute_41 : decode prog_6_method_30_code 41 = .ok (.iload_n 2, 1) := by decide +kernel
theorem eM_oneMinute_42 : decode prog_6_method_30_code 42 = .ok (.iconst 5, 1) := by decide +kernel
theorem eM_oneMinute_43 : decode prog_6_method_30_code 43 = .ok (.aload_n 0, 1) := by decide +kernel
theorem eM_oneMinute_44 : decode prog_6_method_30_code 44 = .ok (.iload_n 2, 1) := by decide +kernel
theorem eM_oneMinute_45 : decode prog_6_method_30_code 45 = .ok (.iconst 3, 1) := by decide +kernel
theorem eM_oneMinute_46 : decode prog_6_method_30_code 46 = .ok (.invokevirtual 46, 3) := by decide +kernel
theorem eM_oneMinute_49 : decode prog_6_method_30_code 49 = .ok (.iload_n 1, 1) := by decide +kernel
theorem eM_oneMinute_50 : decode prog_6_method_30_code 50 = .ok (.aload_n 0, 1) := by decide +kernel
theorem eM_oneMinute_51 : decode prog_6_method_30_code 51 = .ok (.getfield 7, 3) := by decide +kernel
theorem eM_oneMinute_54 : decode prog_6_method_30_code 54 = .ok (.iconst 1, 1) := by decide +kernel
theorem eM_oneMinute_55 : decode prog_6_method_30_code 55 = .ok (.iaload, 1) := by decide +kernel
theorem eM_oneMinute_56 : decode prog_6_method_30_code 56 = .ok (.idiv, 1) := by decide +kernel
theorem eM_oneMinute_57 : decode prog_6_method_30_code 57 = .ok (.iconst 4, 1) := by decide +kernel
theorem eM_oneMinute_58 : decode prog_6_method_30_code 58 = .ok (.irem, 1) := by decide +kernel
theorem eM_oneMinute_59 : decode prog_6_method_30_code 59 = .ok (.if_icmp .ne 7, 3) := by decide +kernel
theorem eM_oneMinute_62 : decode prog_6_method_30_code 62 = .ok (.iconst 0, 1) := by decide +kernel
theorem eM_oneMinute_63 : decode prog_6_method_30_code 63 = .ok (.goto 9, 3) := by decide +kernel
theorem eM_oneMinute_66 : decode prog_6_method_30_code 66 = .ok (.aload_n 0, 1) := by decide +kernel
theorem eM_oneMinute_67 : decode prog_6_method_30_code 67 = .ok (.iload_n 2, 1) := by decide +kernel
theorem eM_oneMinute_68 : decode prog_6_method_30_code 68 = .ok (.iconst 5, 1) := by decide +kernel
theorem eM_oneMinute_69 : decode prog_6_method_30_code 69 = .ok (.invokevirtual 46, 3) := by decide +kernel
theorem eM_oneMinute_72 : decode prog_6_method_30_code 72 = .ok (.invokevirtual 61, 3) := by decide +kernel
theorem eM_oneMinute_75 : decode prog_6_method_30_code 75 = .ok (.iinc 2 1, 3) := by decide +kernel
theorem eM_oneMinute_78 : decode prog_6_method_30_code 78 = .ok (.goto (-59), 3) := by decide +kernel
theorem eM_oneMinute_81 : decode prog_6_method_30_code 81 = .ok (.return_, 1) := by decide +kernel
theorem eM_speak_0 : decode prog_6_method_33_code 0 = .ok (.iload_n 1, 1) := by decide +kernel
theorem eM_speak_1 : decode prog_6_method_33_code 1 = .ok (.invokestatic 69, 3) := by decide +kernel
theorem eM_speak_4 : decode prog_6_method_33_code 4 = .ok (.ifCond .eq 13, 3) := by decide +kernel
theorem eM_speak_7 : decode prog_6_method_33_code 7 = .ok (.iload_n 2, 1) := by decide +kernel
theorem eM_speak_8 : decode prog_6_method_33_code 8 = .ok (.iconst 0, 1) := by decide +kernel
theorem eM_speak_9 : decode prog_6_method_33_code 9 = .ok (.ldc 89, 2) := by decide +kernel
theorem eM_speak_11 : decode prog_6_method_33_code 11 = .ok (.invokestatic 42, 3) := by decide +kernel
theorem eM_speak_14 : decode prog_6_method_33_code 14 = .ok (.ifCond .ne 10, 3) := by decide +kernel
theorem eM_speak_17 : decode prog_6_method_33_code 17 = .ok (.aload_n 0, 1) := by decide +kernel
theorem eM_speak_18 : decode prog_6_method_33_code 18 = .ok (.ldc 41, 2) := by decide +kernel
theorem eM_speak_20 : decode prog_6_method_33_code 20 = .ok (.invokevirtual 57, 3) := by decide +kernel
theorem eM_speak_23 : decode prog_6_method_33_code 23 = .ok (.ireturn, 1) := by decide +kernel
theorem eM_speak_24 : decode prog_6_method_33_code 24 = .ok (.aload_n 0, 1) := by decide +kernel
theorem eM_speak_25 : decode prog_6_method_33_code 25 = .ok (.getfield 7, 3) := by decide +kernel
theorem eM_speak_28 : decode prog_6_method_33_code 28 = .ok (.iconst 0, 1) := by decide +kernel
theorem eM_speak_29 : decode prog_6_method_33_code 29 = .ok (.iaload, 1) := by decide +kernel
theorem eM_speak_30 : decode prog_6_method_33_code 30 = .ok (.iload_n 2, 1) := by decide +kernel
theorem eM_speak_31 : decode prog_6_method_33_code 31 = .ok (.invokestatic 120, 3) := by decide +kernel
theorem eM_speak_34 : decode prog_6_method_33_code 34 = .ok (.iadd, 1) := by decide +kernel
theorem eM_speak_35 : decode prog_6_method_33_code 35 = .ok (.ldc 111, 2) := by decide +kernel
theorem eM_speak_37 : decode prog_6_method_33_code 37 = .ok (.if_icmp .le 12, 3) := by decide +kernel
theorem eM_speak_40 : decode prog_6_method_33_code 40 = .ok (.aload_n 0, 1) := by decide +kernel
theorem eM_speak_41 : decode prog_6_method_33_code 41 = .ok (.ldc 112, 2) := by decide +kernel
theorem eM_speak_43 : decode prog_6_method_33_code 43 = .ok (.invokevirtual 57, 3) := by decide +kernel
theorem eM_speak_46 : decode prog_6_method_33_code 46 = .ok (.goto 9, 3) := by decide +kernel
theorem eM_speak_49 : decode prog_6_method_33_code 49 = .ok (.aload_n 0, 1) := by decide +kernel
theorem eM_speak_50 : decode prog_6_method_33_code 50 = .ok (.iload_n 1, 1) := by decide +kernel
theorem eM_speak_51 : decode prog_6_method_33_code 51 = .ok (.iload_n 2, 1) := by decide +kernel
theorem eM_speak_52 : decode prog_6_method_33_code 52 = .ok (.invokevirtual 123, 3) := by decide +kernel
theorem eM_speak_55 : decode prog_6_method_33_code 55 = .ok (.ireturn, 1) := by decide +kernel
theorem eM_bits_0 : decode prog_6_method_13_code 0 = .ok (.iconst 0, 1) := by decide +kernel
theorem eM_bits_1 : decode prog_6_method_13_code 1 = .ok (.istore_n 1, 1) := by decide +kernel
theorem eM_bits_2 : decode prog_6_method_13_code 2 = .ok (.iload_n 0, 1) := by decide +kernel
theorem eM_bits_3 : decode prog_6_method_13_code 3 = .ok (.istore_n 2, 1) := by decide +kernel
theorem eM_bits_4 : decode prog_6_method_13_code 4 = .ok (.iload_n 2, 1) := by decide +kernel
theorem eM_bits_5 : decode prog_6_method_13_code 5 = .ok (.ifCond .eq 15, 3) := by decide +kernel
theorem eM_bits_8 : decode prog_6_method_13_code 8 = .ok (.iinc 1 1, 3) := by decide +kernel
theorem eM_bits_11 : decode prog_6_method_13_code 11 = .ok (.iload_n 2, 1) := by decide +kernel
theorem eM_bits_12 : decode prog_6_method_13_code 12 = .ok (.iload_n 2, 1) := by decide +kernel
theorem eM_bits_13 : decode prog_6_method_13_code 13 = .ok (.iconst 1, 1) := by decide +kernel
theorem eM_bits_14 : decode prog_6_method_13_code 14 = .ok (.isub, 1) := by decide +kernel
theorem eM_bits_15 : decode prog_6_method_13_code 15 = .ok (.iand, 1) := by decide +kernel
theorem eM_bits_16 : decode prog_6_method_13_code 16 = .ok (.istore_n 2, 1) := by decide +kernel
theorem eM_bits_17 : decode prog_6_method_13_code 17 = .ok (.goto (-13), 3) := by decide +kernel
theorem eM_bits_20 : decode prog_6_method_13_code 20 = .ok (.iload_n 1, 1) := by decide +kernel
theorem eM_bits_21 : decode prog_6_method_13_code 21 = .ok (.ireturn, 1) := by decide +kernel
theorem eM_speaks_0 : decode prog_6_method_32_code 0 = .ok (.iconst 0, 1) := by decide +kernel
theorem eM_speaks_1 : decode prog_6_method_32_code 1 = .ok (.istore_n 3, 1) := by decide +kernel
theorem eM_speaks_2 : decode prog_6_method_32_code 2 = .ok (.aload_n 0, 1) := by decide +kernel
theorem eM_speaks_3 : decode prog_6_method_32_code 3 = .ok (.iconst 0, 1) := by decide +kernel
theorem eM_speaks_4 : decode prog_6_method_32_code 4 = .ok (.putfield 116, 3) := by decide +kernel
theorem eM_speaks_7 : decode prog_6_method_32_code 7 = .ok (.iconst 0, 1) := by decide +kernel
theorem eM_speaks_8 : decode prog_6_method_32_code 8 = .ok (.istore 4, 2) := by decide +kernel
theorem eM_speaks_10 : decode prog_6_method_32_code 10 = .ok (.iload 4, 2) := by decide +kernel
theorem eM_speaks_12 : decode prog_6_method_32_code 12 = .ok (.bipush 16, 2) := by decide +kernel
theorem eM_speaks_14 : decode prog_6_method_32_code 14 = .ok (.if_icmp .ge 61, 3) := by decide +kernel
theorem eM_speaks_17 : decode prog_6_method_32_code 17 = .ok (.iload_n 2, 1) := by decide +kernel
theorem eM_speaks_18 : decode prog_6_method_32_code 18 = .ok (.iload 4, 2) := by decide +kernel
theorem eM_speaks_20 : decode prog_6_method_32_code 20 = .ok (.invokestatic 50, 3) := by decide +kernel
theorem eM_speaks_23 : decode prog_6_method_32_code 23 = .ok (.ifCond .eq 46, 3) := by decide +kernel
theorem eM_speaks_26 : decode prog_6_method_32_code 26 = .ok (.aload_n 0, 1) := by decide +kernel
theorem eM_speaks_27 : decode prog_6_method_32_code 27 = .ok (.iload_n 1, 1) := by decide +kernel
theorem eM_speaks_28 : decode prog_6_method_32_code 28 = .ok (.iload 4, 2) := by decide +kernel
theorem eM_speaks_30 : decode prog_6_method_32_code 30 = .ok (.invokevirtual 108, 3) := by decide +kernel
theorem eM_speaks_33 : decode prog_6_method_32_code 33 = .ok (.istore 5, 2) := by decide +kernel
theorem eM_speaks_35 : decode prog_6_method_32_code 35 = .ok (.iload_n 3, 1) := by decide +kernel
theorem eM_speaks_36 : decode prog_6_method_32_code 36 = .ok (.iload 5, 2) := by decide +kernel
theorem eM_speaks_38 : decode prog_6_method_32_code 38 = .ok (.invokestatic 120, 3) := by decide +kernel
theorem eM_speaks_41 : decode prog_6_method_32_code 41 = .ok (.iadd, 1) := by decide +kernel
theorem eM_speaks_42 : decode prog_6_method_32_code 42 = .ok (.istore_n 3, 1) := by decide +kernel
theorem eM_speaks_43 : decode prog_6_method_32_code 43 = .ok (.aload_n 0, 1) := by decide +kernel
theorem eM_speaks_44 : decode prog_6_method_32_code 44 = .ok (.dup, 1) := by decide +kernel
theorem eM_speaks_45 : decode prog_6_method_32_code 45 = .ok (.getfield 116, 3) := by decide +kernel
theorem eM_speaks_48 : decode prog_6_method_32_code 48 = .ok (.iload 5, 2) := by decide +kernel
theorem eM_speaks_50 : decode prog_6_method_32_code 50 = .ok (.ifCond .ne 10, 3) := by decide +kernel
theorem eM_speaks_53 : decode prog_6_method_32_code 53 = .ok (.iconst 1, 1) := by decide +kernel
theorem eM_speaks_54 : decode prog_6_method_32_code 54 = .ok (.iload 4, 2) := by decide +kernel
theorem eM_speaks_56 : decode prog_6_method_32_code 56 = .ok (.ishl, 1) := by decide +kernel
theorem eM_speaks_57 : decode prog_6_method_32_code 57 = .ok (.goto 4, 3) := by decide +kernel
theorem eM_speaks_60 : decode prog_6_method_32_code 60 = .ok (.iconst 0, 1) := by decide +kernel
theorem eM_speaks_61 : decode prog_6_method_32_code 61 = .ok (.ior, 1) := by decide +kernel
theorem eM_speaks_62 : decode prog_6_method_32_code 62 = .ok (.putfield 116, 3) := by decide +kernel
theorem eM_speaks_65 : decode prog_6_method_32_code 65 = .ok (.aload_n 0, 1) := by decide +kernel
theorem eM_speaks_66 : decode prog_6_method_32_code 66 = .ok (.invokevirtual 113, 3) := by decide +kernel
theorem eM_speaks_69 : decode prog_6_method_32_code 69 = .ok (.iinc 4 1, 3) := by decide +kernel
theorem eM_speaks_72 : decode prog_6_method_32_code 72 = .ok (.goto (-62), 3) := by decide +kernel
theorem eM_speaks_75 : decode prog_6_method_32_code 75 = .ok (.iload_n 3, 1) := by decide +kernel
theorem eM_speaks_76 : decode prog_6_method_32_code 76 = .ok (.ireturn, 1) := by decide +kernel
theorem eM_reach_0 : decode prog_6_method_34_code 0 = .ok (.iload_n 1, 1) := by decide +kernel
theorem eM_reach_1 : decode prog_6_method_34_code 1 = .ok (.invokestatic 69, 3) := by decide +kernel
theorem eM_reach_4 : decode prog_6_method_34_code 4 = .ok (.ifCond .eq 11, 3) := by decide +kernel
theorem eM_reach_7 : decode prog_6_method_34_code 7 = .ok (.aload_n 0, 1) := by decide +kernel
theorem eM_reach_8 : decode prog_6_method_34_code 8 = .ok (.iload_n 1, 1) := by decide +kernel
theorem eM_reach_9 : decode prog_6_method_34_code 9 = .ok (.invokevirtual 98, 3) := by decide +kernel
theorem eM_reach_12 : decode prog_6_method_34_code 12 = .ok (.goto 9, 3) := by decide +kernel
theorem eM_reach_15 : decode prog_6_method_34_code 15 = .ok (.aload_n 0, 1) := by decide +kernel
theorem eM_reach_16 : decode prog_6_method_34_code 16 = .ok (.ldc 41, 2) := by decide +kernel
theorem eM_reach_18 : decode prog_6_method_34_code 18 = .ok (.invokevirtual 57, 3) := by decide +kernel
theorem eM_reach_21 : decode prog_6_method_34_code 21 = .ok (.ireturn, 1) := by decide +kernel
theorem eM_duty_0 : decode prog_6_method_35_code 0 = .ok (.iload_n 1, 1) := by decide +kernel
theorem eM_duty_1 : decode prog_6_method_35_code 1 = .ok (.iconst 0, 1) := by decide +kernel
theorem eM_duty_2 : decode prog_6_method_35_code 2 = .ok (.ldc 111, 2) := by decide +kernel
theorem eM_duty_4 : decode prog_6_method_35_code 4 = .ok (.invokestatic 42, 3) := by decide +kernel
theorem eM_duty_7 : decode prog_6_method_35_code 7 = .ok (.ifCond .ne 10, 3) := by decide +kernel
theorem eM_duty_10 : decode prog_6_method_35_code 10 = .ok (.aload_n 0, 1) := by decide +kernel
theorem eM_duty_11 : decode prog_6_method_35_code 11 = .ok (.ldc 41, 2) := by decide +kernel
theorem eM_duty_13 : decode prog_6_method_35_code 13 = .ok (.invokevirtual 57, 3) := by decide +kernel
theorem eM_duty_16 : decode prog_6_method_35_code 16 = .ok (.ireturn, 1) := by decide +kernel
theorem eM_duty_17 : decode prog_6_method_35_code 17 = .ok (.iconst 0, 1) := by decide +kernel
theorem eM_duty_18 : decode prog_6_method_35_code 18 = .ok (.istore_n 2, 1) := by decide +kernel
theorem eM_duty_19 : decode prog_6_method_35_code 19 = .ok (.iconst 0, 1) := by decide +kernel
theorem eM_duty_20 : decode prog_6_method_35_code 20 = .ok (.istore_n 3, 1) := by decide +kernel
theorem eM_duty_21 : decode prog_6_method_35_code 21 = .ok (.iload_n 3, 1) := by decide +kernel
theorem eM_duty_22 : decode prog_6_method_35_code 22 = .ok (.aload_n 0, 1) := by decide +kernel
theorem eM_duty_23 : decode prog_6_method_35_code 23 = .ok (.getfield 7, 3) := by decide +kernel
theorem eM_duty_26 : decode prog_6_method_35_code 26 = .ok (.iconst 5, 1) := by decide +kernel
theorem eM_duty_27 : decode prog_6_method_35_code 27 = .ok (.iaload, 1) := by decide +kernel
theorem eM_duty_28 : decode prog_6_method_35_code 28 = .ok (.if_icmp .ge 28, 3) := by decide +kernel
theorem eM_duty_31 : decode prog_6_method_35_code 31 = .ok (.iload_n 2, 1) := by decide +kernel
theorem eM_duty_32 : decode prog_6_method_35_code 32 = .ok (.aload_n 0, 1) := by decide +kernel
theorem eM_duty_33 : decode prog_6_method_35_code 33 = .ok (.iload_n 3, 1) := by decide +kernel
theorem eM_duty_34 : decode prog_6_method_35_code 34 = .ok (.iload_n 1, 1) := by decide +kernel
theorem eM_duty_35 : decode prog_6_method_35_code 35 = .ok (.invokevirtual 80, 3) := by decide +kernel
theorem eM_duty_38 : decode prog_6_method_35_code 38 = .ok (.ifCond .eq 9, 3) := by decide +kernel
theorem eM_duty_41 : decode prog_6_method_35_code 41 = .ok (.iconst 1, 1) := by decide +kernel
theorem eM_duty_42 : decode prog_6_method_35_code 42 = .ok (.iload_n 3, 1) := by decide +kernel
theorem eM_duty_43 : decode prog_6_method_35_code 43 = .ok (.ishl, 1) := by decide +kernel
theorem eM_duty_44 : decode prog_6_method_35_code 44 = .ok (.goto 4, 3) := by decide +kernel
theorem eM_duty_47 : decode prog_6_method_35_code 47 = .ok (.iconst 0, 1) := by decide +kernel
theorem eM_duty_48 : decode prog_6_method_35_code 48 = .ok (.ior, 1) := by decide +kernel
theorem eM_duty_49 : decode prog_6_method_35_code 49 = .ok (.istore_n 2, 1) := by decide +kernel
theorem eM_duty_50 : decode prog_6_method_35_code 50 = .ok (.iinc 3 1, 3) := by decide +kernel
theorem eM_duty_53 : decode prog_6_method_35_code 53 = .ok (.goto (-32), 3) := by decide +kernel
theorem eM_duty_56 : decode prog_6_method_35_code 56 = .ok (.iload_n 2, 1) := by decide +kernel
theorem eM_duty_57 : decode prog_6_method_35_code 57 = .ok (.ireturn, 1) := by decide +kernel
theorem eM_now_0 : decode prog_6_method_38_code 0 = .ok (.iload_n 1, 1) := by decide +kernel
theorem eM_now_1 : decode prog_6_method_38_code 1 = .ok (.iconst 0, 1) := by decide +kernel
theorem eM_now_2 : decode prog_6_method_38_code 2 = .ok (.iconst 4, 1) := by decide +kernel
theorem eM_now_3 : decode prog_6_method_38_code 3 = .ok (.invokestatic 42, 3) := by decide +kernel
theorem eM_now_6 : decode prog_6_method_38_code 6 = .ok (.ifCond .eq 10, 3) := by decide +kernel
theorem eM_now_9 : decode prog_6_method_38_code 9 = .ok (.aload_n 0, 1) := by decide +kernel
theorem eM_now_10 : decode prog_6_method_38_code 10 = .ok (.getfield 7, 3) := by decide +kernel
theorem eM_now_13 : decode prog_6_method_38_code 13 = .ok (.iload_n 1, 1) := by decide +kernel
theorem eM_now_14 : decode prog_6_method_38_code 14 = .ok (.iaload, 1) := by decide +kernel
theorem eM_now_15 : decode prog_6_method_38_code 15 = .ok (.ireturn, 1) := by decide +kernel
theorem eM_now_16 : decode prog_6_method_38_code 16 = .ok (.iload_n 1, 1) := by decide +kernel
theorem eM_now_17 : decode prog_6_method_38_code 17 = .ok (.iconst 5, 1) := by decide +kernel
theorem eM_now_18 : decode prog_6_method_38_code 18 = .ok (.if_icmp .ne 10, 3) := by decide +kernel
theorem eM_now_21 : decode prog_6_method_38_code 21 = .ok (.aload_n 0, 1) := by decide +kernel
theorem eM_now_22 : decode prog_6_method_38_code 22 = .ok (.invokevirtual 126, 3) := by decide +kernel
theorem eM_now_25 : decode prog_6_method_38_code 25 = .ok (.goto 22, 3) := by decide +kernel
theorem eM_now_28 : decode prog_6_method_38_code 28 = .ok (.iload_n 1, 1) := by decide +kernel
theorem eM_now_29 : decode prog_6_method_38_code 29 = .ok (.bipush 6, 2) := by decide +kernel
theorem eM_now_31 : decode prog_6_method_38_code 31 = .ok (.if_icmp .ne 10, 3) := by decide +kernel
theorem eM_now_34 : decode prog_6_method_38_code 34 = .ok (.aload_n 0, 1) := by decide +kernel
theorem eM_now_35 : decode prog_6_method_38_code 35 = .ok (.invokevirtual 130, 3) := by decide +kernel
theorem eM_now_38 : decode prog_6_method_38_code 38 = .ok (.goto 9, 3) := by decide +kernel
theorem eM_now_41 : decode prog_6_method_38_code 41 = .ok (.aload_n 0, 1) := by decide +kernel
theorem eM_now_42 : decode prog_6_method_38_code 42 = .ok (.ldc 41, 2) := by decide +kernel
theorem eM_now_44 : decode prog_6_method_38_code 44 = .ok (.invokevirtual 57, 3) := by decide +kernel
theorem eM_now_47 : decode prog_6_method_38_code 47 = .ok (.ireturn, 1) := by decide +kernel
theorem eM_inFiles_0 : decode prog_6_method_36_code 0 = .ok (.iconst 0, 1) := by decide +kernel
theorem eM_inFiles_1 : decode prog_6_method_36_code 1 = .ok (.istore_n 1, 1) := by decide +kernel
theorem eM_inFiles_2 : decode prog_6_method_36_code 2 = .ok (.iconst 0, 1) := by decide +kernel
theorem eM_inFiles_3 : decode prog_6_method_36_code 3 = .ok (.istore_n 2, 1) := by decide +kernel
theorem eM_inFiles_4 : decode prog_6_method_36_code 4 = .ok (.iload_n 2, 1) := by decide +kernel
theorem eM_inFiles_5 : decode prog_6_method_36_code 5 = .ok (.aload_n 0, 1) := by decide +kernel
theorem eM_inFiles_6 : decode prog_6_method_36_code 6 = .ok (.getfield 7, 3) := by decide +kernel
theorem eM_inFiles_9 : decode prog_6_method_36_code 9 = .ok (.iconst 5, 1) := by decide +kernel
theorem eM_inFiles_10 : decode prog_6_method_36_code 10 = .ok (.iaload, 1) := by decide +kernel
theorem eM_inFiles_11 : decode prog_6_method_36_code 11 = .ok (.if_icmp .ge 18, 3) := by decide +kernel
theorem eM_inFiles_14 : decode prog_6_method_36_code 14 = .ok (.iload_n 1, 1) := by decide +kernel
theorem eM_inFiles_15 : decode prog_6_method_36_code 15 = .ok (.aload_n 0, 1) := by decide +kernel
theorem eM_inFiles_16 : decode prog_6_method_36_code 16 = .ok (.iload_n 2, 1) := by decide +kernel
theorem eM_inFiles_17 : decode prog_6_method_36_code 17 = .ok (.iconst 4, 1) := by decide +kernel
theorem eM_inFiles_18 : decode prog_6_method_36_code 18 = .ok (.invokevirtual 46, 3) := by decide +kernel
theorem eM_inFiles_21 : decode prog_6_method_36_code 21 = .ok (.ior, 1) := by decide +kernel
theorem eM_inFiles_22 : decode prog_6_method_36_code 22 = .ok (.istore_n 1, 1) := by decide +kernel
theorem eM_inFiles_23 : decode prog_6_method_36_code 23 = .ok (.iinc 2 1, 3) := by decide +kernel
theorem eM_inFiles_26 : decode prog_6_method_36_code 26 = .ok (.goto (-22), 3) := by decide +kernel
theorem eM_inFiles_29 : decode prog_6_method_36_code 29 = .ok (.iload_n 1, 1) := by decide +kernel
theorem eM_inFiles_30 : decode prog_6_method_36_code 30 = .ok (.ireturn, 1) := by decide +kernel
theorem eM_tiredAll_0 : decode prog_6_method_37_code 0 = .ok (.iconst 0, 1) := by decide +kernel
theorem eM_tiredAll_1 : decode prog_6_method_37_code 1 = .ok (.istore_n 1, 1) := by decide +kernel
theorem eM_tiredAll_2 : decode prog_6_method_37_code 2 = .ok (.iconst 0, 1) := by decide +kernel
theorem eM_tiredAll_3 : decode prog_6_method_37_code 3 = .ok (.istore_n 2, 1) := by decide +kernel
theorem eM_tiredAll_4 : decode prog_6_method_37_code 4 = .ok (.iload_n 2, 1) := by decide +kernel
theorem eM_tiredAll_5 : decode prog_6_method_37_code 5 = .ok (.aload_n 0, 1) := by decide +kernel
theorem eM_tiredAll_6 : decode prog_6_method_37_code 6 = .ok (.getfield 7, 3) := by decide +kernel
theorem eM_tiredAll_9 : decode prog_6_method_37_code 9 = .ok (.iconst 5, 1) := by decide +kernel
theorem eM_tiredAll_10 : decode prog_6_method_37_code 10 = .ok (.iaload, 1) := by decide +kernel
theorem eM_tiredAll_11 : decode prog_6_method_37_code 11 = .ok (.if_icmp .ge 18, 3) := by decide +kernel
theorem eM_tiredAll_14 : decode prog_6_method_37_code 14 = .ok (.iload_n 1, 1) := by decide +kernel
theorem eM_tiredAll_15 : decode prog_6_method_37_code 15 = .ok (.aload_n 0, 1) := by decide +kernel
theorem eM_tiredAll_16 : decode prog_6_method_37_code 16 = .ok (.iload_n 2, 1) := by decide +kernel
theorem eM_tiredAll_17 : decode prog_6_method_37_code 17 = .ok (.iconst 5, 1) := by decide +kernel
theorem eM_tiredAll_18 : decode prog_6_method_37_code 18 = .ok (.invokevirtual 46, 3) := by decide +kernel
theorem eM_tiredAll_21 : decode prog_6_method_37_code 21 = .ok (.iadd, 1) := by decide +kernel
theorem eM_tiredAll_22 : decode prog_6_method_37_code 22 = .ok (.istore_n 1, 1) := by decide +kernel
theorem eM_tiredAll_23 : decode prog_6_method_37_code 23 = .ok (.iinc 2 1, 3) := by decide +kernel
theorem eM_tiredAll_26 : decode prog_6_method_37_code 26 = .ok (.goto (-22), 3) := by decide +kernel
theorem eM_tiredAll_29 : decode prog_6_method_37_code 29 = .ok (.iload_n 1, 1) := by decide +kernel
theorem eM_tiredAll_30 : decode prog_6_method_37_code 30 = .ok (.ireturn, 1) := by decide +kernel
theorem eM_filed_0 : decode prog_6_method_39_code 0 = .ok (.iload_n 1, 1) := by decide +kernel
theorem eM_filed_1 : decode prog_6_method_39_code 1 = .ok (.invokestatic 91, 3) := by decide +kernel
theorem eM_filed_4 : decode prog_6_method_39_code 4 = .ok (.ifCond .ne 10, 3) := by decide +kernel
theorem eM_filed_7 : decode prog_6_method_39_code 7 = .ok (.aload_n 0, 1) := by decide +kernel
theorem eM_filed_8 : decode prog_6_method_39_code 8 = .ok (.ldc 41, 2) := by decide +kernel
theorem eM_filed_10 : decode prog_6_method_39_code 10 = .ok (.invokevirtual 57, 3) := by decide +kernel
theorem eM_filed_13 : decode prog_6_method_39_code 13 = .ok (.ireturn, 1) := by decide +kernel
theorem eM_filed_14 : decode prog_6_method_39_code 14 = .ok (.iconst 0, 1) := by decide +kernel
theorem eM_filed_15 : decode prog_6_method_39_code 15 = .ok (.istore_n 2, 1) := by decide +kernel
theorem eM_filed_16 : decode prog_6_method_39_code 16 = .ok (.iconst 0, 1) := by decide +kernel
theorem eM_filed_17 : decode prog_6_method_39_code 17 = .ok (.istore_n 3, 1) := by decide +kernel
theorem eM_filed_18 : decode prog_6_method_39_code 18 = .ok (.iload_n 3, 1) := by decide +kernel
theorem eM_filed_19 : decode prog_6_method_39_code 19 = .ok (.aload_n 0, 1) := by decide +kernel
theorem eM_filed_20 : decode prog_6_method_39_code 20 = .ok (.getfield 7, 3) := by decide +kernel
theorem eM_filed_23 : decode prog_6_method_39_code 23 = .ok (.iconst 5, 1) := by decide +kernel
theorem eM_filed_24 : decode prog_6_method_39_code 24 = .ok (.iaload, 1) := by decide +kernel
theorem eM_filed_25 : decode prog_6_method_39_code 25 = .ok (.if_icmp .ge 30, 3) := by decide +kernel
theorem eM_filed_28 : decode prog_6_method_39_code 28 = .ok (.iload_n 2, 1) := by decide +kernel
theorem eM_filed_29 : decode prog_6_method_39_code 29 = .ok (.aload_n 0, 1) := by decide +kernel
theorem eM_filed_30 : decode prog_6_method_39_code 30 = .ok (.iload_n 3, 1) := by decide +kernel
theorem eM_filed_31 : decode prog_6_method_39_code 31 = .ok (.iconst 4, 1) := by decide +kernel
theorem eM_filed_32 : decode prog_6_method_39_code 32 = .ok (.invokevirtual 46, 3) := by decide +kernel
theorem eM_filed_35 : decode prog_6_method_39_code 35 = .ok (.iload_n 1, 1) := by decide +kernel
theorem eM_filed_36 : decode prog_6_method_39_code 36 = .ok (.invokestatic 50, 3) := by decide +kernel
theorem eM_filed_39 : decode prog_6_method_39_code 39 = .ok (.ifCond .eq 7, 3) := by decide +kernel
theorem eM_filed_42 : decode prog_6_method_39_code 42 = .ok (.iconst 1, 1) := by decide +kernel
theorem eM_filed_43 : decode prog_6_method_39_code 43 = .ok (.goto 4, 3) := by decide +kernel
theorem eM_filed_46 : decode prog_6_method_39_code 46 = .ok (.iconst 0, 1) := by decide +kernel
theorem eM_filed_47 : decode prog_6_method_39_code 47 = .ok (.iadd, 1) := by decide +kernel
theorem eM_filed_48 : decode prog_6_method_39_code 48 = .ok (.istore_n 2, 1) := by decide +kernel
theorem eM_filed_49 : decode prog_6_method_39_code 49 = .ok (.iinc 3 1, 3) := by decide +kernel
theorem eM_filed_52 : decode prog_6_method_39_code 52 = .ok (.goto (-34), 3) := by decide +kernel
theorem eM_filed_55 : decode prog_6_method_39_code 55 = .ok (.iload_n 2, 1) := by decide +kernel
theorem eM_filed_56 : decode prog_6_method_39_code 56 = .ok (.ireturn, 1) := by decide +kernel
theorem eM_safe_0 : decode prog_6_method_42_code 0 = .ok (.iload_n 1, 1) := by decide +kernel
theorem eM_safe_1 : decode prog_6_method_42_code 1 = .ok (.invokestatic 69, 3) := by decide +kernel
theorem eM_safe_4 : decode prog_6_method_42_code 4 = .ok (.ifCond .eq 13, 3) := by decide +kernel
theorem eM_safe_7 : decode prog_6_method_42_code 7 = .ok (.iload_n 2, 1) := by decide +kernel
theorem eM_safe_8 : decode prog_6_method_42_code 8 = .ok (.iconst 1, 1) := by decide +kernel
theorem eM_safe_9 : decode prog_6_method_42_code 9 = .ok (.bipush 30, 2) := by decide +kernel
theorem eM_safe_11 : decode prog_6_method_42_code 11 = .ok (.invokestatic 42, 3) := by decide +kernel
theorem eM_safe_14 : decode prog_6_method_42_code 14 = .ok (.ifCond .ne 10, 3) := by decide +kernel
theorem eM_safe_17 : decode prog_6_method_42_code 17 = .ok (.aload_n 0, 1) := by decide +kernel
theorem eM_safe_18 : decode prog_6_method_42_code 18 = .ok (.ldc 41, 2) := by decide +kernel
theorem eM_safe_20 : decode prog_6_method_42_code 20 = .ok (.invokevirtual 57, 3) := by decide +kernel
theorem eM_safe_23 : decode prog_6_method_42_code 23 = .ok (.ireturn, 1) := by decide +kernel
theorem eM_safe_24 : decode prog_6_method_42_code 24 = .ok (.aload_n 0, 1) := by decide +kernel
theorem eM_safe_25 : decode prog_6_method_42_code 25 = .ok (.iload_n 1, 1) := by decide +kernel
theorem eM_safe_26 : decode prog_6_method_42_code 26 = .ok (.iload_n 2, 1) := by decide +kernel
theorem eM_safe_27 : decode prog_6_method_42_code 27 = .ok (.invokevirtual 136, 3) := by decide +kernel
theorem eM_safe_30 : decode prog_6_method_42_code 30 = .ok (.istore_n 3, 1) := by decide +kernel
theorem eM_safe_31 : decode prog_6_method_42_code 31 = .ok (.iload_n 3, 1) := by decide +kernel
theorem eM_safe_32 : decode prog_6_method_42_code 32 = .ok (.ifCond .ge 12, 3) := by decide +kernel
theorem eM_safe_35 : decode prog_6_method_42_code 35 = .ok (.aload_n 0, 1) := by decide +kernel
theorem eM_safe_36 : decode prog_6_method_42_code 36 = .ok (.ldc 97, 2) := by decide +kernel
theorem eM_safe_38 : decode prog_6_method_42_code 38 = .ok (.invokevirtual 57, 3) := by decide +kernel
theorem eM_safe_41 : decode prog_6_method_42_code 41 = .ok (.goto 4, 3) := by decide +kernel
theorem eM_safe_44 : decode prog_6_method_42_code 44 = .ok (.iload_n 3, 1) := by decide +kernel
theorem eM_safe_45 : decode prog_6_method_42_code 45 = .ok (.ireturn, 1) := by decide +kernel
theorem eM_safeIn_0 : decode prog_6_method_41_code 0 = .ok (.aload_n 0, 1) := by decide +kernel
theorem eM_safeIn_1 : decode prog_6_method_41_code 1 = .ok (.iload_n 1, 1) := by decide +kernel
theorem eM_safeIn_2 : decode prog_6_method_41_code 2 = .ok (.invokevirtual 98, 3) := by decide +kernel
theorem eM_safeIn_5 : decode prog_6_method_41_code 5 = .ok (.istore_n 3, 1) := by decide +kernel
theorem eM_safeIn_6 : decode prog_6_method_41_code 6 = .ok (.iconst 0, 1) := by decide +kernel
theorem eM_safeIn_7 : decode prog_6_method_41_code 7 = .ok (.istore 4, 2) := by decide +kernel
theorem eM_safeIn_9 : decode prog_6_method_41_code 9 = .ok (.iconst 0, 1) := by decide +kernel
theorem eM_safeIn_10 : decode prog_6_method_41_code 10 = .ok (.istore 5, 2) := by decide +kernel
theorem eM_safeIn_12 : decode prog_6_method_41_code 12 = .ok (.iload 5, 2) := by decide +kernel
theorem eM_safeIn_14 : decode prog_6_method_41_code 14 = .ok (.sipush 240, 3) := by decide +kernel
theorem eM_safeIn_17 : decode prog_6_method_41_code 17 = .ok (.iload_n 2, 1) := by decide +kernel
theorem eM_safeIn_18 : decode prog_6_method_41_code 18 = .ok (.iadd, 1) := by decide +kernel
theorem eM_safeIn_19 : decode prog_6_method_41_code 19 = .ok (.if_icmp .ge 52, 3) := by decide +kernel
theorem eM_safeIn_22 : decode prog_6_method_41_code 22 = .ok (.aload_n 0, 1) := by decide +kernel
theorem eM_safeIn_23 : decode prog_6_method_41_code 23 = .ok (.iload_n 3, 1) := by decide +kernel
theorem eM_safeIn_24 : decode prog_6_method_41_code 24 = .ok (.aload_n 0, 1) := by decide +kernel
theorem eM_safeIn_25 : decode prog_6_method_41_code 25 = .ok (.getfield 7, 3) := by decide +kernel
theorem eM_safeIn_28 : decode prog_6_method_41_code 28 = .ok (.iconst 0, 1) := by decide +kernel
theorem eM_safeIn_29 : decode prog_6_method_41_code 29 = .ok (.iaload, 1) := by decide +kernel
theorem eM_safeIn_30 : decode prog_6_method_41_code 30 = .ok (.iload 5, 2) := by decide +kernel
theorem eM_safeIn_32 : decode prog_6_method_41_code 32 = .ok (.iadd, 1) := by decide +kernel
theorem eM_safeIn_33 : decode prog_6_method_41_code 33 = .ok (.sipush 1023, 3) := by decide +kernel
theorem eM_safeIn_36 : decode prog_6_method_41_code 36 = .ok (.invokevirtual 133, 3) := by decide +kernel
theorem eM_safeIn_39 : decode prog_6_method_41_code 39 = .ok (.ifCond .eq 10, 3) := by decide +kernel
theorem eM_safeIn_42 : decode prog_6_method_41_code 42 = .ok (.iload 4, 2) := by decide +kernel
theorem eM_safeIn_44 : decode prog_6_method_41_code 44 = .ok (.iconst 1, 1) := by decide +kernel
theorem eM_safeIn_45 : decode prog_6_method_41_code 45 = .ok (.iadd, 1) := by decide +kernel
theorem eM_safeIn_46 : decode prog_6_method_41_code 46 = .ok (.goto 4, 3) := by decide +kernel
theorem eM_safeIn_49 : decode prog_6_method_41_code 49 = .ok (.iconst 0, 1) := by decide +kernel
theorem eM_safeIn_50 : decode prog_6_method_41_code 50 = .ok (.istore 4, 2) := by decide +kernel
theorem eM_safeIn_52 : decode prog_6_method_41_code 52 = .ok (.iload 4, 2) := by decide +kernel
theorem eM_safeIn_54 : decode prog_6_method_41_code 54 = .ok (.iload_n 2, 1) := by decide +kernel
theorem eM_safeIn_55 : decode prog_6_method_41_code 55 = .ok (.if_icmp .ne 10, 3) := by decide +kernel
theorem eM_safeIn_58 : decode prog_6_method_41_code 58 = .ok (.iload 5, 2) := by decide +kernel
theorem eM_safeIn_60 : decode prog_6_method_41_code 60 = .ok (.iconst 1, 1) := by decide +kernel
theorem eM_safeIn_61 : decode prog_6_method_41_code 61 = .ok (.iadd, 1) := by decide +kernel
theorem eM_safeIn_62 : decode prog_6_method_41_code 62 = .ok (.iload_n 2, 1) := by decide +kernel
theorem eM_safeIn_63 : decode prog_6_method_41_code 63 = .ok (.isub, 1) := by decide +kernel
theorem eM_safeIn_64 : decode prog_6_method_41_code 64 = .ok (.ireturn, 1) := by decide +kernel
theorem eM_safeIn_65 : decode prog_6_method_41_code 65 = .ok (.iinc 5 1, 3) := by decide +kernel
theorem eM_safeIn_68 : decode prog_6_method_41_code 68 = .ok (.goto (-56), 3) := by decide +kernel
theorem eM_safeIn_71 : decode prog_6_method_41_code 71 = .ok (.iconst (-1), 1) := by decide +kernel
theorem eM_safeIn_72 : decode prog_6_method_41_code 72 = .ok (.ireturn, 1) := by decide +kernel
theorem eM_isUnheard_0 : decode prog_6_method_40_code 0 = .ok (.iconst 1, 1) := by decide +kernel
theorem eM_isUnheard_1 : decode prog_6_method_40_code 1 = .ok (.istore 4, 2) := by decide +kernel
theorem eM_isUnheard_3 : decode prog_6_method_40_code 3 = .ok (.iconst 0, 1) := by decide +kernel
theorem eM_isUnheard_4 : decode prog_6_method_40_code 4 = .ok (.istore 5, 2) := by decide +kernel
theorem eM_isUnheard_6 : decode prog_6_method_40_code 6 = .ok (.iload 5, 2) := by decide +kernel
theorem eM_isUnheard_8 : decode prog_6_method_40_code 8 = .ok (.aload_n 0, 1) := by decide +kernel
theorem eM_isUnheard_9 : decode prog_6_method_40_code 9 = .ok (.getfield 7, 3) := by decide +kernel
theorem eM_isUnheard_12 : decode prog_6_method_40_code 12 = .ok (.iconst 5, 1) := by decide +kernel
theorem eM_isUnheard_13 : decode prog_6_method_40_code 13 = .ok (.iaload, 1) := by decide +kernel
theorem eM_isUnheard_14 : decode prog_6_method_40_code 14 = .ok (.if_icmp .ge 50, 3) := by decide +kernel
theorem eM_isUnheard_17 : decode prog_6_method_40_code 17 = .ok (.iload 4, 2) := by decide +kernel
theorem eM_isUnheard_19 : decode prog_6_method_40_code 19 = .ok (.ifCond .eq 45, 3) := by decide +kernel
theorem eM_isUnheard_22 : decode prog_6_method_40_code 22 = .ok (.iload_n 3, 1) := by decide +kernel
theorem eM_isUnheard_23 : decode prog_6_method_40_code 23 = .ok (.iload 5, 2) := by decide +kernel
theorem eM_isUnheard_25 : decode prog_6_method_40_code 25 = .ok (.invokestatic 50, 3) := by decide +kernel
theorem eM_isUnheard_28 : decode prog_6_method_40_code 28 = .ok (.ifCond .eq 23, 3) := by decide +kernel
theorem eM_isUnheard_31 : decode prog_6_method_40_code 31 = .ok (.aload_n 0, 1) := by decide +kernel
theorem eM_isUnheard_32 : decode prog_6_method_40_code 32 = .ok (.iload 5, 2) := by decide +kernel
theorem eM_isUnheard_34 : decode prog_6_method_40_code 34 = .ok (.iload_n 1, 1) := by decide +kernel
theorem eM_isUnheard_35 : decode prog_6_method_40_code 35 = .ok (.invokevirtual 101, 3) := by decide +kernel
theorem eM_isUnheard_38 : decode prog_6_method_40_code 38 = .ok (.ifCond .eq 13, 3) := by decide +kernel
theorem eM_isUnheard_41 : decode prog_6_method_40_code 41 = .ok (.aload_n 0, 1) := by decide +kernel
theorem eM_isUnheard_42 : decode prog_6_method_40_code 42 = .ok (.iload 5, 2) := by decide +kernel
theorem eM_isUnheard_44 : decode prog_6_method_40_code 44 = .ok (.iload_n 2, 1) := by decide +kernel
theorem eM_isUnheard_45 : decode prog_6_method_40_code 45 = .ok (.invokevirtual 80, 3) := by decide +kernel
theorem eM_isUnheard_48 : decode prog_6_method_40_code 48 = .ok (.ifCond .ne 7, 3) := by decide +kernel
theorem eM_isUnheard_51 : decode prog_6_method_40_code 51 = .ok (.iconst 1, 1) := by decide +kernel
theorem eM_isUnheard_52 : decode prog_6_method_40_code 52 = .ok (.goto 4, 3) := by decide +kernel
theorem eM_isUnheard_55 : decode prog_6_method_40_code 55 = .ok (.iconst 0, 1) := by decide +kernel
theorem eM_isUnheard_56 : decode prog_6_method_40_code 56 = .ok (.istore 4, 2) := by decide +kernel
theorem eM_isUnheard_58 : decode prog_6_method_40_code 58 = .ok (.iinc 5 1, 3) := by decide +kernel
theorem eM_isUnheard_61 : decode prog_6_method_40_code 61 = .ok (.goto (-55), 3) := by decide +kernel
theorem eM_isUnheard_64 : decode prog_6_method_40_code 64 = .ok (.iload 4, 2) := by decide +kernel
theorem eM_isUnheard_66 : decode prog_6_method_40_code 66 = .ok (.ireturn, 1) := by decide +kernel
theorem eM_where_0 : decode prog_6_method_43_code 0 = .ok (.iload_n 1, 1) := by decide +kernel
theorem eM_where_1 : decode prog_6_method_43_code 1 = .ok (.iconst 1, 1) := by decide +kernel
theorem eM_where_2 : decode prog_6_method_43_code 2 = .ok (.bipush 30, 2) := by decide +kernel
theorem eM_where_4 : decode prog_6_method_43_code 4 = .ok (.invokestatic 42, 3) := by decide +kernel
theorem eM_where_7 : decode prog_6_method_43_code 7 = .ok (.ifCond .ne 10, 3) := by decide +kernel
theorem eM_where_10 : decode prog_6_method_43_code 10 = .ok (.aload_n 0, 1) := by decide +kernel
theorem eM_where_11 : decode prog_6_method_43_code 11 = .ok (.ldc 41, 2) := by decide +kernel
theorem eM_where_13 : decode prog_6_method_43_code 13 = .ok (.invokevirtual 57, 3) := by decide +kernel
theorem eM_where_16 : decode prog_6_method_43_code 16 = .ok (.ireturn, 1) := by decide +kernel
theorem eM_where_17 : decode prog_6_method_43_code 17 = .ok (.iconst (-1), 1) := by decide +kernel
theorem eM_where_18 : decode prog_6_method_43_code 18 = .ok (.istore_n 2, 1) := by decide +kernel
theorem eM_where_19 : decode prog_6_method_43_code 19 = .ok (.sipush 241, 3) := by decide +kernel
theorem eM_where_22 : decode prog_6_method_43_code 22 = .ok (.istore_n 3, 1) := by decide +kernel
theorem eM_where_23 : decode prog_6_method_43_code 23 = .ok (.iconst 0, 1) := by decide +kernel
theorem eM_where_24 : decode prog_6_method_43_code 24 = .ok (.istore 4, 2) := by decide +kernel
theorem eM_where_26 : decode prog_6_method_43_code 26 = .ok (.iload 4, 2) := by decide +kernel
theorem eM_where_28 : decode prog_6_method_43_code 28 = .ok (.bipush 10, 2) := by decide +kernel
theorem eM_where_30 : decode prog_6_method_43_code 30 = .ok (.if_icmp .ge 49, 3) := by decide +kernel
theorem eM_where_33 : decode prog_6_method_43_code 33 = .ok (.aload_n 0, 1) := by decide +kernel
theorem eM_where_34 : decode prog_6_method_43_code 34 = .ok (.iload 4, 2) := by decide +kernel
theorem eM_where_36 : decode prog_6_method_43_code 36 = .ok (.iload_n 1, 1) := by decide +kernel
theorem eM_where_37 : decode prog_6_method_43_code 37 = .ok (.invokevirtual 136, 3) := by decide +kernel
theorem eM_where_40 : decode prog_6_method_43_code 40 = .ok (.istore 5, 2) := by decide +kernel
theorem eM_where_42 : decode prog_6_method_43_code 42 = .ok (.iload 5, 2) := by decide +kernel
theorem eM_where_44 : decode prog_6_method_43_code 44 = .ok (.ifCond .lt 14, 3) := by decide +kernel
theorem eM_where_47 : decode prog_6_method_43_code 47 = .ok (.iload 5, 2) := by decide +kernel
theorem eM_where_49 : decode prog_6_method_43_code 49 = .ok (.iload_n 3, 1) := by decide +kernel
theorem eM_where_50 : decode prog_6_method_43_code 50 = .ok (.if_icmp .ge 8, 3) := by decide +kernel
theorem eM_where_53 : decode prog_6_method_43_code 53 = .ok (.iload 4, 2) := by decide +kernel
theorem eM_where_55 : decode prog_6_method_43_code 55 = .ok (.goto 4, 3) := by decide +kernel
theorem eM_where_58 : decode prog_6_method_43_code 58 = .ok (.iload_n 2, 1) := by decide +kernel
theorem eM_where_59 : decode prog_6_method_43_code 59 = .ok (.istore_n 2, 1) := by decide +kernel
theorem eM_where_60 : decode prog_6_method_43_code 60 = .ok (.iload_n 2, 1) := by decide +kernel
theorem eM_where_61 : decode prog_6_method_43_code 61 = .ok (.iload 4, 2) := by decide +kernel
theorem eM_where_63 : decode prog_6_method_43_code 63 = .ok (.if_icmp .ne 8, 3) := by decide +kernel
theorem eM_where_66 : decode prog_6_method_43_code 66 = .ok (.iload 5, 2) := by decide +kernel
theorem eM_where_68 : decode prog_6_method_43_code 68 = .ok (.goto 4, 3) := by decide +kernel
theorem eM_where_71 : decode prog_6_method_43_code 71 = .ok (.iload_n 3, 1) := by decide +kernel
theorem eM_where_72 : decode prog_6_method_43_code 72 = .ok (.istore_n 3, 1) := by decide +kernel
theorem eM_where_73 : decode prog_6_method_43_code 73 = .ok (.iinc 4 1, 3) := by decide +kernel
theorem eM_where_76 : decode prog_6_method_43_code 76 = .ok (.goto (-50), 3) := by decide +kernel
theorem eM_where_79 : decode prog_6_method_43_code 79 = .ok (.iload_n 2, 1) := by decide +kernel
theorem eM_where_80 : decode prog_6_method_43_code 80 = .ok (.ifCond .ge 12, 3) := by decide +kernel
theorem eM_where_83 : decode prog_6_method_43_code 83 = .ok (.aload_n 0, 1) := by decide +kernel
theorem eM_where_84 : decode prog_6_method_43_code 84 = .ok (.ldc 97, 2) := by decide +kernel
theorem eM_where_86 : decode prog_6_method_43_code 86 = .ok (.invokevirtual 57, 3) := by decide +kernel
theorem eM_where_89 : decode prog_6_method_43_code 89 = .ok (.goto 4, 3) := by decide +kernel
theorem eM_where_92 : decode prog_6_method_43_code 92 = .ok (.iload_n 2, 1) := by decide +kernel
theorem eM_where_93 : decode prog_6_method_43_code 93 = .ok (.ireturn, 1) := by decide +kernel
theorem eM_quiet_0 : decode prog_6_method_45_code 0 = .ok (.iload_n 1, 1) := by decide +kernel
theorem eM_quiet_1 : decode prog_6_method_45_code 1 = .ok (.invokestatic 69, 3) := by decide +kernel
theorem eM_quiet_4 : decode prog_6_method_45_code 4 = .ok (.ifCond .eq 26, 3) := by decide +kernel
theorem eM_quiet_7 : decode prog_6_method_45_code 7 = .ok (.iload_n 2, 1) := by decide +kernel
theorem eM_quiet_8 : decode prog_6_method_45_code 8 = .ok (.iconst 1, 1) := by decide +kernel
theorem eM_quiet_9 : decode prog_6_method_45_code 9 = .ok (.sipush 240, 3) := by decide +kernel
theorem eM_quiet_12 : decode prog_6_method_45_code 12 = .ok (.invokestatic 42, 3) := by decide +kernel
theorem eM_quiet_15 : decode prog_6_method_45_code 15 = .ok (.ifCond .eq 15, 3) := by decide +kernel
theorem eM_quiet_18 : decode prog_6_method_45_code 18 = .ok (.aload_n 0, 1) := by decide +kernel
theorem eM_quiet_19 : decode prog_6_method_45_code 19 = .ok (.iload_n 1, 1) := by decide +kernel
theorem eM_quiet_20 : decode prog_6_method_45_code 20 = .ok (.iload_n 2, 1) := by decide +kernel
theorem eM_quiet_21 : decode prog_6_method_45_code 21 = .ok (.sipush 1023, 3) := by decide +kernel
theorem eM_quiet_24 : decode prog_6_method_45_code 24 = .ok (.invokevirtual 139, 3) := by decide +kernel
theorem eM_quiet_27 : decode prog_6_method_45_code 27 = .ok (.goto 9, 3) := by decide +kernel
theorem eM_quiet_30 : decode prog_6_method_45_code 30 = .ok (.aload_n 0, 1) := by decide +kernel
theorem eM_quiet_31 : decode prog_6_method_45_code 31 = .ok (.ldc 41, 2) := by decide +kernel
theorem eM_quiet_33 : decode prog_6_method_45_code 33 = .ok (.invokevirtual 57, 3) := by decide +kernel
theorem eM_quiet_36 : decode prog_6_method_45_code 36 = .ok (.ireturn, 1) := by decide +kernel
theorem eM_unheardIn_0 : decode prog_6_method_44_code 0 = .ok (.aload_n 0, 1) := by decide +kernel
theorem eM_unheardIn_1 : decode prog_6_method_44_code 1 = .ok (.iload_n 1, 1) := by decide +kernel
theorem eM_unheardIn_2 : decode prog_6_method_44_code 2 = .ok (.invokevirtual 98, 3) := by decide +kernel
theorem eM_unheardIn_5 : decode prog_6_method_44_code 5 = .ok (.istore 4, 2) := by decide +kernel
theorem eM_unheardIn_7 : decode prog_6_method_44_code 7 = .ok (.iconst 0, 1) := by decide +kernel
theorem eM_unheardIn_8 : decode prog_6_method_44_code 8 = .ok (.istore 5, 2) := by decide +kernel
theorem eM_unheardIn_10 : decode prog_6_method_44_code 10 = .ok (.iconst 0, 1) := by decide +kernel
theorem eM_unheardIn_11 : decode prog_6_method_44_code 11 = .ok (.istore 6, 2) := by decide +kernel
theorem eM_unheardIn_13 : decode prog_6_method_44_code 13 = .ok (.iload 6, 2) := by decide +kernel
theorem eM_unheardIn_15 : decode prog_6_method_44_code 15 = .ok (.iload_n 2, 1) := by decide +kernel
theorem eM_unheardIn_16 : decode prog_6_method_44_code 16 = .ok (.if_icmp .ge 38, 3) := by decide +kernel
theorem eM_unheardIn_19 : decode prog_6_method_44_code 19 = .ok (.iload 5, 2) := by decide +kernel
theorem eM_unheardIn_21 : decode prog_6_method_44_code 21 = .ok (.aload_n 0, 1) := by decide +kernel
theorem eM_unheardIn_22 : decode prog_6_method_44_code 22 = .ok (.iload 4, 2) := by decide +kernel
theorem eM_unheardIn_24 : decode prog_6_method_44_code 24 = .ok (.aload_n 0, 1) := by decide +kernel
theorem eM_unheardIn_25 : decode prog_6_method_44_code 25 = .ok (.getfield 7, 3) := by decide +kernel
theorem eM_unheardIn_28 : decode prog_6_method_44_code 28 = .ok (.iconst 0, 1) := by decide +kernel
theorem eM_unheardIn_29 : decode prog_6_method_44_code 29 = .ok (.iaload, 1) := by decide +kernel
theorem eM_unheardIn_30 : decode prog_6_method_44_code 30 = .ok (.iload 6, 2) := by decide +kernel
theorem eM_unheardIn_32 : decode prog_6_method_44_code 32 = .ok (.iadd, 1) := by decide +kernel
theorem eM_unheardIn_33 : decode prog_6_method_44_code 33 = .ok (.iload_n 3, 1) := by decide +kernel
theorem eM_unheardIn_34 : decode prog_6_method_44_code 34 = .ok (.invokevirtual 133, 3) := by decide +kernel
theorem eM_unheardIn_37 : decode prog_6_method_44_code 37 = .ok (.ifCond .eq 7, 3) := by decide +kernel
theorem eM_unheardIn_40 : decode prog_6_method_44_code 40 = .ok (.iconst 1, 1) := by decide +kernel
theorem eM_unheardIn_41 : decode prog_6_method_44_code 41 = .ok (.goto 4, 3) := by decide +kernel
theorem eM_unheardIn_44 : decode prog_6_method_44_code 44 = .ok (.iconst 0, 1) := by decide +kernel
theorem eM_unheardIn_45 : decode prog_6_method_44_code 45 = .ok (.iadd, 1) := by decide +kernel
theorem eM_unheardIn_46 : decode prog_6_method_44_code 46 = .ok (.istore 5, 2) := by decide +kernel
theorem eM_unheardIn_48 : decode prog_6_method_44_code 48 = .ok (.iinc 6 1, 3) := by decide +kernel
theorem eM_unheardIn_51 : decode prog_6_method_44_code 51 = .ok (.goto (-38), 3) := by decide +kernel
theorem eM_unheardIn_54 : decode prog_6_method_44_code 54 = .ok (.iload 5, 2) := by decide +kernel
theorem eM_unheardIn_56 : decode prog_6_method_44_code 56 = .ok (.ireturn, 1) := by decide +kernel
theorem eM_worst_0 : decode prog_6_method_46_code 0 = .ok (.iload_n 1, 1) := by decide +kernel
theorem eM_worst_1 : decode prog_6_method_46_code 1 = .ok (.invokestatic 69, 3) := by decide +kernel
theorem eM_worst_4 : decode prog_6_method_46_code 4 = .ok (.ifCond .eq 14, 3) := by decide +kernel
theorem eM_worst_7 : decode prog_6_method_46_code 7 = .ok (.iload_n 2, 1) := by decide +kernel
theorem eM_worst_8 : decode prog_6_method_46_code 8 = .ok (.iconst 1, 1) := by decide +kernel
theorem eM_worst_9 : decode prog_6_method_46_code 9 = .ok (.sipush 240, 3) := by decide +kernel
theorem eM_worst_12 : decode prog_6_method_46_code 12 = .ok (.invokestatic 42, 3) := by decide +kernel
theorem eM_worst_15 : decode prog_6_method_46_code 15 = .ok (.ifCond .ne 10, 3) := by decide +kernel
theorem eM_worst_18 : decode prog_6_method_46_code 18 = .ok (.aload_n 0, 1) := by decide +kernel
theorem eM_worst_19 : decode prog_6_method_46_code 19 = .ok (.ldc 41, 2) := by decide +kernel
theorem eM_worst_21 : decode prog_6_method_46_code 21 = .ok (.invokevirtual 57, 3) := by decide +kernel
theorem eM_worst_24 : decode prog_6_method_46_code 24 = .ok (.ireturn, 1) := by decide +kernel
theorem eM_worst_25 : decode prog_6_method_46_code 25 = .ok (.aload_n 0, 1) := by decide +kernel
theorem eM_worst_26 : decode prog_6_method_46_code 26 = .ok (.iload_n 1, 1) := by decide +kernel
theorem eM_worst_27 : decode prog_6_method_46_code 27 = .ok (.iload_n 2, 1) := by decide +kernel
theorem eM_worst_28 : decode prog_6_method_46_code 28 = .ok (.sipush 1023, 3) := by decide +kernel
theorem eM_worst_31 : decode prog_6_method_46_code 31 = .ok (.invokevirtual 139, 3) := by decide +kernel
theorem eM_worst_34 : decode prog_6_method_46_code 34 = .ok (.istore_n 3, 1) := by decide +kernel
theorem eM_worst_35 : decode prog_6_method_46_code 35 = .ok (.iconst (-1), 1) := by decide +kernel
theorem eM_worst_36 : decode prog_6_method_46_code 36 = .ok (.istore 4, 2) := by decide +kernel
theorem eM_worst_38 : decode prog_6_method_46_code 38 = .ok (.iconst 0, 1) := by decide +kernel
theorem eM_worst_39 : decode prog_6_method_46_code 39 = .ok (.istore 5, 2) := by decide +kernel
theorem eM_worst_41 : decode prog_6_method_46_code 41 = .ok (.iload 5, 2) := by decide +kernel
theorem eM_worst_43 : decode prog_6_method_46_code 43 = .ok (.aload_n 0, 1) := by decide +kernel
theorem eM_worst_44 : decode prog_6_method_46_code 44 = .ok (.getfield 7, 3) := by decide +kernel
theorem eM_worst_47 : decode prog_6_method_46_code 47 = .ok (.iconst 5, 1) := by decide +kernel
theorem eM_worst_48 : decode prog_6_method_46_code 48 = .ok (.iaload, 1) := by decide +kernel
theorem eM_worst_49 : decode prog_6_method_46_code 49 = .ok (.if_icmp .ge 53, 3) := by decide +kernel
theorem eM_worst_52 : decode prog_6_method_46_code 52 = .ok (.aload_n 0, 1) := by decide +kernel
theorem eM_worst_53 : decode prog_6_method_46_code 53 = .ok (.iload_n 1, 1) := by decide +kernel
theorem eM_worst_54 : decode prog_6_method_46_code 54 = .ok (.iload_n 2, 1) := by decide +kernel
theorem eM_worst_55 : decode prog_6_method_46_code 55 = .ok (.sipush 1023, 3) := by decide +kernel
theorem eM_worst_58 : decode prog_6_method_46_code 58 = .ok (.iconst 1, 1) := by decide +kernel
theorem eM_worst_59 : decode prog_6_method_46_code 59 = .ok (.iload 5, 2) := by decide +kernel
theorem eM_worst_61 : decode prog_6_method_46_code 61 = .ok (.ishl, 1) := by decide +kernel
theorem eM_worst_62 : decode prog_6_method_46_code 62 = .ok (.ixor, 1) := by decide +kernel
theorem eM_worst_63 : decode prog_6_method_46_code 63 = .ok (.invokevirtual 139, 3) := by decide +kernel
theorem eM_worst_66 : decode prog_6_method_46_code 66 = .ok (.istore 6, 2) := by decide +kernel
theorem eM_worst_68 : decode prog_6_method_46_code 68 = .ok (.iload 6, 2) := by decide +kernel
theorem eM_worst_70 : decode prog_6_method_46_code 70 = .ok (.iload_n 3, 1) := by decide +kernel
theorem eM_worst_71 : decode prog_6_method_46_code 71 = .ok (.if_icmp .le 8, 3) := by decide +kernel
theorem eM_worst_74 : decode prog_6_method_46_code 74 = .ok (.iload 5, 2) := by decide +kernel
theorem eM_worst_76 : decode prog_6_method_46_code 76 = .ok (.goto 5, 3) := by decide +kernel
theorem eM_worst_79 : decode prog_6_method_46_code 79 = .ok (.iload 4, 2) := by decide +kernel
theorem eM_worst_81 : decode prog_6_method_46_code 81 = .ok (.istore 4, 2) := by decide +kernel
theorem eM_worst_83 : decode prog_6_method_46_code 83 = .ok (.iload 6, 2) := by decide +kernel
theorem eM_worst_85 : decode prog_6_method_46_code 85 = .ok (.iload_n 3, 1) := by decide +kernel
theorem eM_worst_86 : decode prog_6_method_46_code 86 = .ok (.if_icmp .le 8, 3) := by decide +kernel
theorem eM_worst_89 : decode prog_6_method_46_code 89 = .ok (.iload 6, 2) := by decide +kernel
theorem eM_worst_91 : decode prog_6_method_46_code 91 = .ok (.goto 4, 3) := by decide +kernel
theorem eM_worst_94 : decode prog_6_method_46_code 94 = .ok (.iload_n 3, 1) := by decide +kernel
theorem eM_worst_95 : decode prog_6_method_46_code 95 = .ok (.istore_n 3, 1) := by decide +kernel
theorem eM_worst_96 : decode prog_6_method_46_code 96 = .ok (.iinc 5 1, 3) := by decide +kernel
theorem eM_worst_99 : decode prog_6_method_46_code 99 = .ok (.goto (-58), 3) := by decide +kernel
theorem eM_worst_102 : decode prog_6_method_46_code 102 = .ok (.iload 4, 2) := by decide +kernel
theorem eM_worst_104 : decode prog_6_method_46_code 104 = .ok (.ifCond .ge 12, 3) := by decide +kernel
theorem eM_worst_107 : decode prog_6_method_46_code 107 = .ok (.aload_n 0, 1) := by decide +kernel
theorem eM_worst_108 : decode prog_6_method_46_code 108 = .ok (.ldc 97, 2) := by decide +kernel
theorem eM_worst_110 : decode prog_6_method_46_code 110 = .ok (.invokevirtual 57, 3) := by decide +kernel
theorem eM_worst_113 : decode prog_6_method_46_code 113 = .ok (.goto 5, 3) := by decide +kernel
theorem eM_worst_116 : decode prog_6_method_46_code 116 = .ok (.iload 4, 2) := by decide +kernel
theorem eM_worst_118 : decode prog_6_method_46_code 118 = .ok (.ireturn, 1) := by decide +kernel
theorem eM_cover_0 : decode prog_6_method_47_code 0 = .ok (.iload_n 1, 1) := by decide +kernel
theorem eM_cover_1 : decode prog_6_method_47_code 1 = .ok (.invokestatic 69, 3) := by decide +kernel
theorem eM_cover_4 : decode prog_6_method_47_code 4 = .ok (.ifCond .eq 13, 3) := by decide +kernel
theorem eM_cover_7 : decode prog_6_method_47_code 7 = .ok (.iload_n 2, 1) := by decide +kernel
theorem eM_cover_8 : decode prog_6_method_47_code 8 = .ok (.iconst 1, 1) := by decide +kernel
theorem eM_cover_9 : decode prog_6_method_47_code 9 = .ok (.bipush 60, 2) := by decide +kernel
theorem eM_cover_11 : decode prog_6_method_47_code 11 = .ok (.invokestatic 42, 3) := by decide +kernel
theorem eM_cover_14 : decode prog_6_method_47_code 14 = .ok (.ifCond .ne 10, 3) := by decide +kernel
theorem eM_cover_17 : decode prog_6_method_47_code 17 = .ok (.aload_n 0, 1) := by decide +kernel
theorem eM_cover_18 : decode prog_6_method_47_code 18 = .ok (.ldc 41, 2) := by decide +kernel
theorem eM_cover_20 : decode prog_6_method_47_code 20 = .ok (.invokevirtual 57, 3) := by decide +kernel
theorem eM_cover_23 : decode prog_6_method_47_code 23 = .ok (.ireturn, 1) := by decide +kernel
theorem eM_cover_24 : decode prog_6_method_47_code 24 = .ok (.iconst (-1), 1) := by decide +kernel
theorem eM_cover_25 : decode prog_6_method_47_code 25 = .ok (.istore_n 3, 1) := by decide +kernel
theorem eM_cover_26 : decode prog_6_method_47_code 26 = .ok (.iconst 0, 1) := by decide +kernel
theorem eM_cover_27 : decode prog_6_method_47_code 27 = .ok (.istore 4, 2) := by decide +kernel
theorem eM_cover_29 : decode prog_6_method_47_code 29 = .ok (.iload 4, 2) := by decide +kernel
theorem eM_cover_31 : decode prog_6_method_47_code 31 = .ok (.iconst 1, 1) := by decide +kernel
theorem eM_cover_32 : decode prog_6_method_47_code 32 = .ok (.aload_n 0, 1) := by decide +kernel
theorem eM_cover_33 : decode prog_6_method_47_code 33 = .ok (.getfield 7, 3) := by decide +kernel
theorem eM_cover_36 : decode prog_6_method_47_code 36 = .ok (.iconst 5, 1) := by decide +kernel
theorem eM_cover_37 : decode prog_6_method_47_code 37 = .ok (.iaload, 1) := by decide +kernel
theorem eM_cover_38 : decode prog_6_method_47_code 38 = .ok (.ishl, 1) := by decide +kernel
theorem eM_cover_39 : decode prog_6_method_47_code 39 = .ok (.if_icmp .ge 43, 3) := by decide +kernel
theorem eM_cover_42 : decode prog_6_method_47_code 42 = .ok (.iload_n 3, 1) := by decide +kernel
theorem eM_cover_43 : decode prog_6_method_47_code 43 = .ok (.ifCond .lt 15, 3) := by decide +kernel
theorem eM_cover_46 : decode prog_6_method_47_code 46 = .ok (.iload 4, 2) := by decide +kernel
theorem eM_cover_48 : decode prog_6_method_47_code 48 = .ok (.invokestatic 120, 3) := by decide +kernel
theorem eM_cover_51 : decode prog_6_method_47_code 51 = .ok (.iload_n 3, 1) := by decide +kernel
theorem eM_cover_52 : decode prog_6_method_47_code 52 = .ok (.invokestatic 120, 3) := by decide +kernel
theorem eM_cover_55 : decode prog_6_method_47_code 55 = .ok (.if_icmp .ge 21, 3) := by decide +kernel
theorem eM_cover_58 : decode prog_6_method_47_code 58 = .ok (.aload_n 0, 1) := by decide +kernel
theorem eM_cover_59 : decode prog_6_method_47_code 59 = .ok (.iload_n 1, 1) := by decide +kernel
theorem eM_cover_60 : decode prog_6_method_47_code 60 = .ok (.iload_n 2, 1) := by decide +kernel
theorem eM_cover_61 : decode prog_6_method_47_code 61 = .ok (.iload 4, 2) := by decide +kernel
theorem eM_cover_63 : decode prog_6_method_47_code 63 = .ok (.invokevirtual 139, 3) := by decide +kernel
theorem eM_cover_66 : decode prog_6_method_47_code 66 = .ok (.ifCond .ne 8, 3) := by decide +kernel
theorem eM_cover_69 : decode prog_6_method_47_code 69 = .ok (.iload 4, 2) := by decide +kernel
theorem eM_cover_71 : decode prog_6_method_47_code 71 = .ok (.goto 4, 3) := by decide +kernel
theorem eM_cover_74 : decode prog_6_method_47_code 74 = .ok (.iload_n 3, 1) := by decide +kernel
theorem eM_cover_75 : decode prog_6_method_47_code 75 = .ok (.istore_n 3, 1) := by decide +kernel
theorem eM_cover_76 : decode prog_6_method_47_code 76 = .ok (.iinc 4 1, 3) := by decide +kernel
theorem eM_cover_79 : decode prog_6_method_47_code 79 = .ok (.goto (-50), 3) := by decide +kernel
theorem eM_cover_82 : decode prog_6_method_47_code 82 = .ok (.iload_n 3, 1) := by decide +kernel
theorem eM_cover_83 : decode prog_6_method_47_code 83 = .ok (.ifCond .ge 12, 3) := by decide +kernel
theorem eM_cover_86 : decode prog_6_method_47_code 86 = .ok (.aload_n 0, 1) := by decide +kernel
theorem eM_cover_87 : decode prog_6_method_47_code 87 = .ok (.ldc 97, 2) := by decide +kernel
theorem eM_cover_89 : decode prog_6_method_47_code 89 = .ok (.invokevirtual 57, 3) := by decide +kernel
theorem eM_cover_92 : decode prog_6_method_47_code 92 = .ok (.goto 4, 3) := by decide +kernel
theorem eM_cover_95 : decode prog_6_method_47_code 95 = .ok (.iload_n 3, 1) := by decide +kernel
theorem eM_cover_96 : decode prog_6_method_47_code 96 = .ok (.ireturn, 1) := by decide +kernel
theorem eM_shift_0 : decode prog_6_method_48_code 0 = .ok (.iload_n 1, 1) := by decide +kernel
theorem eM_shift_1 : decode prog_6_method_48_code 1 = .ok (.invokestatic 69, 3) := by decide +kernel
theorem eM_shift_4 : decode prog_6_method_48_code 4 = .ok (.ifCond .eq 13, 3) := by decide +kernel
theorem eM_shift_7 : decode prog_6_method_48_code 7 = .ok (.iload_n 2, 1) := by decide +kernel
theorem eM_shift_8 : decode prog_6_method_48_code 8 = .ok (.iconst 1, 1) := by decide +kernel
theorem eM_shift_9 : decode prog_6_method_48_code 9 = .ok (.bipush 60, 2) := by decide +kernel
theorem eM_shift_11 : decode prog_6_method_48_code 11 = .ok (.invokestatic 42, 3) := by decide +kernel
theorem eM_shift_14 : decode prog_6_method_48_code 14 = .ok (.ifCond .ne 10, 3) := by decide +kernel
theorem eM_shift_17 : decode prog_6_method_48_code 17 = .ok (.aload_n 0, 1) := by decide +kernel
theorem eM_shift_18 : decode prog_6_method_48_code 18 = .ok (.ldc 41, 2) := by decide +kernel
theorem eM_shift_20 : decode prog_6_method_48_code 20 = .ok (.invokevirtual 57, 3) := by decide +kernel
theorem eM_shift_23 : decode prog_6_method_48_code 23 = .ok (.ireturn, 1) := by decide +kernel
theorem eM_shift_24 : decode prog_6_method_48_code 24 = .ok (.aload_n 0, 1) := by decide +kernel
theorem eM_shift_25 : decode prog_6_method_48_code 25 = .ok (.getfield 7, 3) := by decide +kernel
theorem eM_shift_28 : decode prog_6_method_48_code 28 = .ok (.iconst 1, 1) := by decide +kernel
theorem eM_shift_29 : decode prog_6_method_48_code 29 = .ok (.iaload, 1) := by decide +kernel
theorem eM_shift_30 : decode prog_6_method_48_code 30 = .ok (.istore_n 3, 1) := by decide +kernel
theorem eM_shift_31 : decode prog_6_method_48_code 31 = .ok (.iconst 1, 1) := by decide +kernel
theorem eM_shift_32 : decode prog_6_method_48_code 32 = .ok (.istore 4, 2) := by decide +kernel
theorem eM_shift_34 : decode prog_6_method_48_code 34 = .ok (.iload_n 2, 1) := by decide +kernel
theorem eM_shift_35 : decode prog_6_method_48_code 35 = .ok (.iconst 1, 1) := by decide +kernel
theorem eM_shift_36 : decode prog_6_method_48_code 36 = .ok (.iadd, 1) := by decide +kernel
theorem eM_shift_37 : decode prog_6_method_48_code 37 = .ok (.istore 5, 2) := by decide +kernel
theorem eM_shift_39 : decode prog_6_method_48_code 39 = .ok (.iconst 1, 1) := by decide +kernel
theorem eM_shift_40 : decode prog_6_method_48_code 40 = .ok (.istore 6, 2) := by decide +kernel
theorem eM_shift_42 : decode prog_6_method_48_code 42 = .ok (.iload 6, 2) := by decide +kernel
theorem eM_shift_44 : decode prog_6_method_48_code 44 = .ok (.bipush 60, 2) := by decide +kernel
theorem eM_shift_46 : decode prog_6_method_48_code 46 = .ok (.if_icmp .gt 60, 3) := by decide +kernel
theorem eM_shift_49 : decode prog_6_method_48_code 49 = .ok (.aload_n 0, 1) := by decide +kernel
theorem eM_shift_50 : decode prog_6_method_48_code 50 = .ok (.getfield 7, 3) := by decide +kernel
theorem eM_shift_53 : decode prog_6_method_48_code 53 = .ok (.iconst 1, 1) := by decide +kernel
theorem eM_shift_54 : decode prog_6_method_48_code 54 = .ok (.iload 6, 2) := by decide +kernel
theorem eM_shift_56 : decode prog_6_method_48_code 56 = .ok (.iastore, 1) := by decide +kernel
theorem eM_shift_57 : decode prog_6_method_48_code 57 = .ok (.aload_n 0, 1) := by decide +kernel
theorem eM_shift_58 : decode prog_6_method_48_code 58 = .ok (.iload_n 1, 1) := by decide +kernel
theorem eM_shift_59 : decode prog_6_method_48_code 59 = .ok (.iload_n 2, 1) := by decide +kernel
theorem eM_shift_60 : decode prog_6_method_48_code 60 = .ok (.sipush 1023, 3) := by decide +kernel
theorem eM_shift_63 : decode prog_6_method_48_code 63 = .ok (.invokevirtual 139, 3) := by decide +kernel
theorem eM_shift_66 : decode prog_6_method_48_code 66 = .ok (.istore 7, 2) := by decide +kernel
theorem eM_shift_68 : decode prog_6_method_48_code 68 = .ok (.iload 7, 2) := by decide +kernel
theorem eM_shift_70 : decode prog_6_method_48_code 70 = .ok (.iload 5, 2) := by decide +kernel
theorem eM_shift_72 : decode prog_6_method_48_code 72 = .ok (.if_icmp .ge 8, 3) := by decide +kernel
theorem eM_shift_75 : decode prog_6_method_48_code 75 = .ok (.iload 6, 2) := by decide +kernel
theorem eM_shift_77 : decode prog_6_method_48_code 77 = .ok (.goto 5, 3) := by decide +kernel
theorem eM_shift_80 : decode prog_6_method_48_code 80 = .ok (.iload 4, 2) := by decide +kernel
theorem eM_shift_82 : decode prog_6_method_48_code 82 = .ok (.istore 4, 2) := by decide +kernel
theorem eM_shift_84 : decode prog_6_method_48_code 84 = .ok (.iload 7, 2) := by decide +kernel
theorem eM_shift_86 : decode prog_6_method_48_code 86 = .ok (.iload 5, 2) := by decide +kernel
theorem eM_shift_88 : decode prog_6_method_48_code 88 = .ok (.if_icmp .ge 8, 3) := by decide +kernel
theorem eM_shift_91 : decode prog_6_method_48_code 91 = .ok (.iload 7, 2) := by decide +kernel
theorem eM_shift_93 : decode prog_6_method_48_code 93 = .ok (.goto 5, 3) := by decide +kernel
theorem eM_shift_96 : decode prog_6_method_48_code 96 = .ok (.iload 5, 2) := by decide +kernel
theorem eM_shift_98 : decode prog_6_method_48_code 98 = .ok (.istore 5, 2) := by decide +kernel
theorem eM_shift_100 : decode prog_6_method_48_code 100 = .ok (.iinc 6 1, 3) := by decide +kernel
theorem eM_shift_103 : decode prog_6_method_48_code 103 = .ok (.goto (-61), 3) := by decide +kernel
theorem eM_shift_106 : decode prog_6_method_48_code 106 = .ok (.aload_n 0, 1) := by decide +kernel
theorem eM_shift_107 : decode prog_6_method_48_code 107 = .ok (.getfield 7, 3) := by decide +kernel
theorem eM_shift_110 : decode prog_6_method_48_code 110 = .ok (.iconst 1, 1) := by decide +kernel
theorem eM_shift_111 : decode prog_6_method_48_code 111 = .ok (.iload_n 3, 1) := by decide +kernel
theorem eM_shift_112 : decode prog_6_method_48_code 112 = .ok (.iastore, 1) := by decide +kernel
theorem eM_shift_113 : decode prog_6_method_48_code 113 = .ok (.iload 4, 2) := by decide +kernel
theorem eM_shift_115 : decode prog_6_method_48_code 115 = .ok (.ireturn, 1) := by decide +kernel
theorem eM_side_0 : decode prog_6_method_49_code 0 = .ok (.aload_n 0, 1) := by decide +kernel
theorem eM_side_1 : decode prog_6_method_49_code 1 = .ok (.iload_n 1, 1) := by decide +kernel
theorem eM_side_2 : decode prog_6_method_49_code 2 = .ok (.invokevirtual 77, 3) := by decide +kernel
theorem eM_side_5 : decode prog_6_method_49_code 5 = .ok (.ifCond .eq 21, 3) := by decide +kernel
theorem eM_side_8 : decode prog_6_method_49_code 8 = .ok (.iload_n 2, 1) := by decide +kernel
theorem eM_side_9 : decode prog_6_method_49_code 9 = .ok (.invokestatic 69, 3) := by decide +kernel
theorem eM_side_12 : decode prog_6_method_49_code 12 = .ok (.ifCond .eq 14, 3) := by decide +kernel
theorem eM_side_15 : decode prog_6_method_49_code 15 = .ok (.iload_n 3, 1) := by decide +kernel
theorem eM_side_16 : decode prog_6_method_49_code 16 = .ok (.iconst 1, 1) := by decide +kernel
theorem eM_side_17 : decode prog_6_method_49_code 17 = .ok (.sipush 240, 3) := by decide +kernel
theorem eM_side_20 : decode prog_6_method_49_code 20 = .ok (.invokestatic 42, 3) := by decide +kernel
theorem eM_side_23 : decode prog_6_method_49_code 23 = .ok (.ifCond .ne 10, 3) := by decide +kernel
theorem eM_side_26 : decode prog_6_method_49_code 26 = .ok (.aload_n 0, 1) := by decide +kernel
theorem eM_side_27 : decode prog_6_method_49_code 27 = .ok (.ldc 41, 2) := by decide +kernel
theorem eM_side_29 : decode prog_6_method_49_code 29 = .ok (.invokevirtual 57, 3) := by decide +kernel
theorem eM_side_32 : decode prog_6_method_49_code 32 = .ok (.ireturn, 1) := by decide +kernel
theorem eM_side_33 : decode prog_6_method_49_code 33 = .ok (.aload_n 0, 1) := by decide +kernel
theorem eM_side_34 : decode prog_6_method_49_code 34 = .ok (.iload_n 1, 1) := by decide +kernel
theorem eM_side_35 : decode prog_6_method_49_code 35 = .ok (.iconst 3, 1) := by decide +kernel
theorem eM_side_36 : decode prog_6_method_49_code 36 = .ok (.invokevirtual 46, 3) := by decide +kernel
theorem eM_side_39 : decode prog_6_method_49_code 39 = .ok (.istore 4, 2) := by decide +kernel
theorem eM_side_41 : decode prog_6_method_49_code 41 = .ok (.iconst 0, 1) := by decide +kernel
theorem eM_side_42 : decode prog_6_method_49_code 42 = .ok (.istore 5, 2) := by decide +kernel
theorem eM_side_44 : decode prog_6_method_49_code 44 = .ok (.iload_n 3, 1) := by decide +kernel
theorem eM_side_45 : decode prog_6_method_49_code 45 = .ok (.iconst 1, 1) := by decide +kernel
theorem eM_side_46 : decode prog_6_method_49_code 46 = .ok (.iadd, 1) := by decide +kernel
theorem eM_side_47 : decode prog_6_method_49_code 47 = .ok (.istore 6, 2) := by decide +kernel
theorem eM_side_49 : decode prog_6_method_49_code 49 = .ok (.iconst 0, 1) := by decide +kernel
theorem eM_side_50 : decode prog_6_method_49_code 50 = .ok (.istore 7, 2) := by decide +kernel
theorem eM_side_52 : decode prog_6_method_49_code 52 = .ok (.iload 7, 2) := by decide +kernel
theorem eM_side_54 : decode prog_6_method_49_code 54 = .ok (.iconst 4, 1) := by decide +kernel
theorem eM_side_55 : decode prog_6_method_49_code 55 = .ok (.if_icmp .ge 60, 3) := by decide +kernel
theorem eM_side_58 : decode prog_6_method_49_code 58 = .ok (.aload_n 0, 1) := by decide +kernel
theorem eM_side_59 : decode prog_6_method_49_code 59 = .ok (.iload_n 1, 1) := by decide +kernel
theorem eM_side_60 : decode prog_6_method_49_code 60 = .ok (.iconst 3, 1) := by decide +kernel
theorem eM_side_61 : decode prog_6_method_49_code 61 = .ok (.iload 7, 2) := by decide +kernel
theorem eM_side_63 : decode prog_6_method_49_code 63 = .ok (.invokevirtual 61, 3) := by decide +kernel
theorem eM_side_66 : decode prog_6_method_49_code 66 = .ok (.aload_n 0, 1) := by decide +kernel
theorem eM_side_67 : decode prog_6_method_49_code 67 = .ok (.iload_n 2, 1) := by decide +kernel
theorem eM_side_68 : decode prog_6_method_49_code 68 = .ok (.iload_n 3, 1) := by decide +kernel
theorem eM_side_69 : decode prog_6_method_49_code 69 = .ok (.sipush 1023, 3) := by decide +kernel
theorem eM_side_72 : decode prog_6_method_49_code 72 = .ok (.invokevirtual 139, 3) := by decide +kernel
theorem eM_side_75 : decode prog_6_method_49_code 75 = .ok (.istore 8, 2) := by decide +kernel
theorem eM_side_77 : decode prog_6_method_49_code 77 = .ok (.iload 8, 2) := by decide +kernel
theorem eM_side_79 : decode prog_6_method_49_code 79 = .ok (.iload 6, 2) := by decide +kernel
theorem eM_side_81 : decode prog_6_method_49_code 81 = .ok (.if_icmp .ge 8, 3) := by decide +kernel
theorem eM_side_84 : decode prog_6_method_49_code 84 = .ok (.iload 7, 2) := by decide +kernel
theorem eM_side_86 : decode prog_6_method_49_code 86 = .ok (.goto 5, 3) := by decide +kernel
theorem eM_side_89 : decode prog_6_method_49_code 89 = .ok (.iload 5, 2) := by decide +kernel
theorem eM_side_91 : decode prog_6_method_49_code 91 = .ok (.istore 5, 2) := by decide +kernel
theorem eM_side_93 : decode prog_6_method_49_code 93 = .ok (.iload 8, 2) := by decide +kernel
theorem eM_side_95 : decode prog_6_method_49_code 95 = .ok (.iload 6, 2) := by decide +kernel
theorem eM_side_97 : decode prog_6_method_49_code 97 = .ok (.if_icmp .ge 8, 3) := by decide +kernel
theorem eM_side_100 : decode prog_6_method_49_code 100 = .ok (.iload 8, 2) := by decide +kernel
theorem eM_side_102 : decode prog_6_method_49_code 102 = .ok (.goto 5, 3) := by decide +kernel
theorem eM_side_105 : decode prog_6_method_49_code 105 = .ok (.iload 6, 2) := by decide +kernel
theorem eM_side_107 : decode prog_6_method_49_code 107 = .ok (.istore 6, 2) := by decide +kernel
theorem eM_side_109 : decode prog_6_method_49_code 109 = .ok (.iinc 7 1, 3) := by decide +kernel
theorem eM_side_112 : decode prog_6_method_49_code 112 = .ok (.goto (-60), 3) := by decide +kernel
theorem eM_side_115 : decode prog_6_method_49_code 115 = .ok (.aload_n 0, 1) := by decide +kernel
theorem eM_side_116 : decode prog_6_method_49_code 116 = .ok (.iload_n 1, 1) := by decide +kernel
theorem eM_side_117 : decode prog_6_method_49_code 117 = .ok (.iconst 3, 1) := by decide +kernel
theorem eM_side_118 : decode prog_6_method_49_code 118 = .ok (.iload 4, 2) := by decide +kernel
theorem eM_side_120 : decode prog_6_method_49_code 120 = .ok (.invokevirtual 61, 3) := by decide +kernel
theorem eM_side_123 : decode prog_6_method_49_code 123 = .ok (.iload 5, 2) := by decide +kernel
theorem eM_side_125 : decode prog_6_method_49_code 125 = .ok (.ireturn, 1) := by decide +kernel
theorem eM_lost_0 : decode prog_6_method_50_code 0 = .ok (.iload_n 1, 1) := by decide +kernel
theorem eM_lost_1 : decode prog_6_method_50_code 1 = .ok (.invokestatic 69, 3) := by decide +kernel
theorem eM_lost_4 : decode prog_6_method_50_code 4 = .ok (.ifCond .eq 13, 3) := by decide +kernel
theorem eM_lost_7 : decode prog_6_method_50_code 7 = .ok (.iload_n 2, 1) := by decide +kernel
theorem eM_lost_8 : decode prog_6_method_50_code 8 = .ok (.iconst 0, 1) := by decide +kernel
theorem eM_lost_9 : decode prog_6_method_50_code 9 = .ok (.ldc 89, 2) := by decide +kernel
theorem eM_lost_11 : decode prog_6_method_50_code 11 = .ok (.invokestatic 42, 3) := by decide +kernel
theorem eM_lost_14 : decode prog_6_method_50_code 14 = .ok (.ifCond .ne 10, 3) := by decide +kernel
theorem eM_lost_17 : decode prog_6_method_50_code 17 = .ok (.aload_n 0, 1) := by decide +kernel
theorem eM_lost_18 : decode prog_6_method_50_code 18 = .ok (.ldc 41, 2) := by decide +kernel
theorem eM_lost_20 : decode prog_6_method_50_code 20 = .ok (.invokevirtual 57, 3) := by decide +kernel
theorem eM_lost_23 : decode prog_6_method_50_code 23 = .ok (.ireturn, 1) := by decide +kernel
theorem eM_lost_24 : decode prog_6_method_50_code 24 = .ok (.aload_n 0, 1) := by decide +kernel
theorem eM_lost_25 : decode prog_6_method_50_code 25 = .ok (.iconst 1, 1) := by decide +kernel
theorem eM_lost_26 : decode prog_6_method_50_code 26 = .ok (.aload_n 0, 1) := by decide +kernel
theorem eM_lost_27 : decode prog_6_method_50_code 27 = .ok (.getfield 16, 3) := by decide +kernel
theorem eM_lost_30 : decode prog_6_method_50_code 30 = .ok (.invokevirtual 142, 3) := by decide +kernel
theorem eM_lost_33 : decode prog_6_method_50_code 33 = .ok (.aload_n 0, 1) := by decide +kernel
theorem eM_lost_34 : decode prog_6_method_50_code 34 = .ok (.iload_n 1, 1) := by decide +kernel
theorem eM_lost_35 : decode prog_6_method_50_code 35 = .ok (.iload_n 2, 1) := by decide +kernel
theorem eM_lost_36 : decode prog_6_method_50_code 36 = .ok (.invokevirtual 123, 3) := by decide +kernel
theorem eM_lost_39 : decode prog_6_method_50_code 39 = .ok (.istore_n 3, 1) := by decide +kernel
theorem eM_lost_40 : decode prog_6_method_50_code 40 = .ok (.aload_n 0, 1) := by decide +kernel
theorem eM_lost_41 : decode prog_6_method_50_code 41 = .ok (.iconst 0, 1) := by decide +kernel
theorem eM_lost_42 : decode prog_6_method_50_code 42 = .ok (.aload_n 0, 1) := by decide +kernel
theorem eM_lost_43 : decode prog_6_method_50_code 43 = .ok (.getfield 16, 3) := by decide +kernel
theorem eM_lost_46 : decode prog_6_method_50_code 46 = .ok (.invokevirtual 142, 3) := by decide +kernel
theorem eM_lost_49 : decode prog_6_method_50_code 49 = .ok (.iload_n 3, 1) := by decide +kernel
theorem eM_lost_50 : decode prog_6_method_50_code 50 = .ok (.ifCond .ge 7, 3) := by decide +kernel
theorem eM_lost_53 : decode prog_6_method_50_code 53 = .ok (.iconst 0, 1) := by decide +kernel
theorem eM_lost_54 : decode prog_6_method_50_code 54 = .ok (.goto 7, 3) := by decide +kernel
theorem eM_lost_57 : decode prog_6_method_50_code 57 = .ok (.aload_n 0, 1) := by decide +kernel
theorem eM_lost_58 : decode prog_6_method_50_code 58 = .ok (.getfield 116, 3) := by decide +kernel
theorem eM_lost_61 : decode prog_6_method_50_code 61 = .ok (.ireturn, 1) := by decide +kernel
theorem eM_moveAll_0 : decode prog_6_method_77_code 0 = .ok (.iconst 0, 1) := by decide +kernel
theorem eM_moveAll_1 : decode prog_6_method_77_code 1 = .ok (.istore_n 3, 1) := by decide +kernel
theorem eM_moveAll_2 : decode prog_6_method_77_code 2 = .ok (.iload_n 3, 1) := by decide +kernel
theorem eM_moveAll_3 : decode prog_6_method_77_code 3 = .ok (.bipush 66, 2) := by decide +kernel
theorem eM_moveAll_5 : decode prog_6_method_77_code 5 = .ok (.if_icmp .ge 34, 3) := by decide +kernel
theorem eM_moveAll_8 : decode prog_6_method_77_code 8 = .ok (.iload_n 1, 1) := by decide +kernel
theorem eM_moveAll_9 : decode prog_6_method_77_code 9 = .ok (.ifCond .eq 15, 3) := by decide +kernel
theorem eM_moveAll_12 : decode prog_6_method_77_code 12 = .ok (.aload_n 2, 1) := by decide +kernel
theorem eM_moveAll_13 : decode prog_6_method_77_code 13 = .ok (.iload_n 3, 1) := by decide +kernel
theorem eM_moveAll_14 : decode prog_6_method_77_code 14 = .ok (.aload_n 0, 1) := by decide +kernel
theorem eM_moveAll_15 : decode prog_6_method_77_code 15 = .ok (.getfield 7, 3) := by decide +kernel
theorem eM_moveAll_18 : decode prog_6_method_77_code 18 = .ok (.iload_n 3, 1) := by decide +kernel
theorem eM_moveAll_19 : decode prog_6_method_77_code 19 = .ok (.iaload, 1) := by decide +kernel
theorem eM_moveAll_20 : decode prog_6_method_77_code 20 = .ok (.iastore, 1) := by decide +kernel
theorem eM_moveAll_21 : decode prog_6_method_77_code 21 = .ok (.goto 12, 3) := by decide +kernel
theorem eM_moveAll_24 : decode prog_6_method_77_code 24 = .ok (.aload_n 0, 1) := by decide +kernel
theorem eM_moveAll_25 : decode prog_6_method_77_code 25 = .ok (.getfield 7, 3) := by decide +kernel
theorem eM_moveAll_28 : decode prog_6_method_77_code 28 = .ok (.iload_n 3, 1) := by decide +kernel
theorem eM_moveAll_29 : decode prog_6_method_77_code 29 = .ok (.aload_n 2, 1) := by decide +kernel
theorem eM_moveAll_30 : decode prog_6_method_77_code 30 = .ok (.iload_n 3, 1) := by decide +kernel
theorem eM_moveAll_31 : decode prog_6_method_77_code 31 = .ok (.iaload, 1) := by decide +kernel
theorem eM_moveAll_32 : decode prog_6_method_77_code 32 = .ok (.iastore, 1) := by decide +kernel
theorem eM_moveAll_33 : decode prog_6_method_77_code 33 = .ok (.iinc 3 1, 3) := by decide +kernel
theorem eM_moveAll_36 : decode prog_6_method_77_code 36 = .ok (.goto (-34), 3) := by decide +kernel
theorem eM_moveAll_39 : decode prog_6_method_77_code 39 = .ok (.return_, 1) := by decide +kernel
theorem eM_best_0 : decode prog_6_method_51_code 0 = .ok (.iload_n 1, 1) := by decide +kernel
theorem eM_best_1 : decode prog_6_method_51_code 1 = .ok (.iconst 0, 1) := by decide +kernel
theorem eM_best_2 : decode prog_6_method_51_code 2 = .ok (.ldc 89, 2) := by decide +kernel
theorem eM_best_4 : decode prog_6_method_51_code 4 = .ok (.invokestatic 42, 3) := by decide +kernel
theorem eM_best_7 : decode prog_6_method_51_code 7 = .ok (.ifCond .ne 10, 3) := by decide +kernel
theorem eM_best_10 : decode prog_6_method_51_code 10 = .ok (.aload_n 0, 1) := by decide +kernel
theorem eM_best_11 : decode prog_6_method_51_code 11 = .ok (.ldc 41, 2) := by decide +kernel
theorem eM_best_13 : decode prog_6_method_51_code 13 = .ok (.invokevirtual 57, 3) := by decide +kernel
theorem eM_best_16 : decode prog_6_method_51_code 16 = .ok (.ireturn, 1) := by decide +kernel
theorem eM_best_17 : decode prog_6_method_51_code 17 = .ok (.iconst 0, 1) := by decide +kernel
theorem eM_best_18 : decode prog_6_method_51_code 18 = .ok (.istore_n 2, 1) := by decide +kernel
theorem eM_best_19 : decode prog_6_method_51_code 19 = .ok (.iconst (-1), 1) := by decide +kernel
theorem eM_best_20 : decode prog_6_method_51_code 20 = .ok (.istore_n 3, 1) := by decide +kernel
theorem eM_best_21 : decode prog_6_method_51_code 21 = .ok (.aload_n 0, 1) := by decide +kernel
theorem eM_best_22 : decode prog_6_method_51_code 22 = .ok (.iconst 1, 1) := by decide +kernel
theorem eM_best_23 : decode prog_6_method_51_code 23 = .ok (.aload_n 0, 1) := by decide +kernel
theorem eM_best_24 : decode prog_6_method_51_code 24 = .ok (.getfield 16, 3) := by decide +kernel
theorem eM_best_27 : decode prog_6_method_51_code 27 = .ok (.invokevirtual 142, 3) := by decide +kernel
theorem eM_best_30 : decode prog_6_method_51_code 30 = .ok (.iconst 0, 1) := by decide +kernel
theorem eM_best_31 : decode prog_6_method_51_code 31 = .ok (.istore 4, 2) := by decide +kernel
theorem eM_best_33 : decode prog_6_method_51_code 33 = .ok (.iload 4, 2) := by decide +kernel
theorem eM_best_35 : decode prog_6_method_51_code 35 = .ok (.bipush 10, 2) := by decide +kernel
theorem eM_best_37 : decode prog_6_method_51_code 37 = .ok (.if_icmp .ge 57, 3) := by decide +kernel
theorem eM_best_40 : decode prog_6_method_51_code 40 = .ok (.aload_n 0, 1) := by decide +kernel
theorem eM_best_41 : decode prog_6_method_51_code 41 = .ok (.iload 4, 2) := by decide +kernel
theorem eM_best_43 : decode prog_6_method_51_code 43 = .ok (.iload_n 1, 1) := by decide +kernel
theorem eM_best_44 : decode prog_6_method_51_code 44 = .ok (.invokevirtual 123, 3) := by decide +kernel
theorem eM_best_47 : decode prog_6_method_51_code 47 = .ok (.istore 5, 2) := by decide +kernel
theorem eM_best_49 : decode prog_6_method_51_code 49 = .ok (.aload_n 0, 1) := by decide +kernel
theorem eM_best_50 : decode prog_6_method_51_code 50 = .ok (.iconst 0, 1) := by decide +kernel
theorem eM_best_51 : decode prog_6_method_51_code 51 = .ok (.aload_n 0, 1) := by decide +kernel
theorem eM_best_52 : decode prog_6_method_51_code 52 = .ok (.getfield 16, 3) := by decide +kernel
theorem eM_best_55 : decode prog_6_method_51_code 55 = .ok (.invokevirtual 142, 3) := by decide +kernel
theorem eM_best_58 : decode prog_6_method_51_code 58 = .ok (.iload_n 3, 1) := by decide +kernel
theorem eM_best_59 : decode prog_6_method_51_code 59 = .ok (.ifCond .lt 9, 3) := by decide +kernel
theorem eM_best_62 : decode prog_6_method_51_code 62 = .ok (.iload 5, 2) := by decide +kernel
theorem eM_best_64 : decode prog_6_method_51_code 64 = .ok (.iload_n 3, 1) := by decide +kernel
theorem eM_best_65 : decode prog_6_method_51_code 65 = .ok (.if_icmp .ge 8, 3) := by decide +kernel
theorem eM_best_68 : decode prog_6_method_51_code 68 = .ok (.iload 4, 2) := by decide +kernel
theorem eM_best_70 : decode prog_6_method_51_code 70 = .ok (.goto 4, 3) := by decide +kernel
theorem eM_best_73 : decode prog_6_method_51_code 73 = .ok (.iload_n 2, 1) := by decide +kernel
theorem eM_best_74 : decode prog_6_method_51_code 74 = .ok (.istore_n 2, 1) := by decide +kernel
theorem eM_best_75 : decode prog_6_method_51_code 75 = .ok (.iload_n 2, 1) := by decide +kernel
theorem eM_best_76 : decode prog_6_method_51_code 76 = .ok (.iload 4, 2) := by decide +kernel
theorem eM_best_78 : decode prog_6_method_51_code 78 = .ok (.if_icmp .ne 8, 3) := by decide +kernel
theorem eM_best_81 : decode prog_6_method_51_code 81 = .ok (.iload 5, 2) := by decide +kernel
theorem eM_best_83 : decode prog_6_method_51_code 83 = .ok (.goto 4, 3) := by decide +kernel
theorem eM_best_86 : decode prog_6_method_51_code 86 = .ok (.iload_n 3, 1) := by decide +kernel
theorem eM_best_87 : decode prog_6_method_51_code 87 = .ok (.istore_n 3, 1) := by decide +kernel
theorem eM_best_88 : decode prog_6_method_51_code 88 = .ok (.iinc 4 1, 3) := by decide +kernel
theorem eM_best_91 : decode prog_6_method_51_code 91 = .ok (.goto (-58), 3) := by decide +kernel
theorem eM_best_94 : decode prog_6_method_51_code 94 = .ok (.iload_n 2, 1) := by decide +kernel
theorem eM_best_95 : decode prog_6_method_51_code 95 = .ok (.ireturn, 1) := by decide +kernel
theorem eM_feed_0 : decode prog_6_method_52_code 0 = .ok (.iload_n 2, 1) := by decide +kernel
theorem eM_feed_1 : decode prog_6_method_52_code 1 = .ok (.iconst 1, 1) := by decide +kernel
theorem eM_feed_2 : decode prog_6_method_52_code 2 = .ok (.iconst 4, 1) := by decide +kernel
theorem eM_feed_3 : decode prog_6_method_52_code 3 = .ok (.invokestatic 42, 3) := by decide +kernel
theorem eM_feed_6 : decode prog_6_method_52_code 6 = .ok (.ifCond .ne 10, 3) := by decide +kernel
theorem eM_feed_9 : decode prog_6_method_52_code 9 = .ok (.aload_n 0, 1) := by decide +kernel
theorem eM_feed_10 : decode prog_6_method_52_code 10 = .ok (.ldc 41, 2) := by decide +kernel
theorem eM_feed_12 : decode prog_6_method_52_code 12 = .ok (.invokevirtual 57, 3) := by decide +kernel
theorem eM_feed_15 : decode prog_6_method_52_code 15 = .ok (.ireturn, 1) := by decide +kernel
theorem eM_feed_16 : decode prog_6_method_52_code 16 = .ok (.aload_n 0, 1) := by decide +kernel
theorem eM_feed_17 : decode prog_6_method_52_code 17 = .ok (.getfield 146, 3) := by decide +kernel
theorem eM_feed_20 : decode prog_6_method_52_code 20 = .ok (.iload_n 2, 1) := by decide +kernel
theorem eM_feed_21 : decode prog_6_method_52_code 21 = .ok (.iadd, 1) := by decide +kernel
theorem eM_feed_22 : decode prog_6_method_52_code 22 = .ok (.bipush 120, 2) := by decide +kernel
theorem eM_feed_24 : decode prog_6_method_52_code 24 = .ok (.if_icmp .le 10, 3) := by decide +kernel
theorem eM_feed_27 : decode prog_6_method_52_code 27 = .ok (.aload_n 0, 1) := by decide +kernel
theorem eM_feed_28 : decode prog_6_method_52_code 28 = .ok (.ldc 72, 2) := by decide +kernel
theorem eM_feed_30 : decode prog_6_method_52_code 30 = .ok (.invokevirtual 57, 3) := by decide +kernel
theorem eM_feed_33 : decode prog_6_method_52_code 33 = .ok (.ireturn, 1) := by decide +kernel
theorem eM_feed_34 : decode prog_6_method_52_code 34 = .ok (.iload_n 2, 1) := by decide +kernel
theorem eM_feed_35 : decode prog_6_method_52_code 35 = .ok (.iconst 1, 1) := by decide +kernel
theorem eM_feed_36 : decode prog_6_method_52_code 36 = .ok (.isub, 1) := by decide +kernel
theorem eM_feed_37 : decode prog_6_method_52_code 37 = .ok (.istore_n 3, 1) := by decide +kernel
theorem eM_feed_38 : decode prog_6_method_52_code 38 = .ok (.iload_n 3, 1) := by decide +kernel
theorem eM_feed_39 : decode prog_6_method_52_code 39 = .ok (.ifCond .lt 38, 3) := by decide +kernel
theorem eM_feed_42 : decode prog_6_method_52_code 42 = .ok (.aload_n 0, 1) := by decide +kernel
theorem eM_feed_43 : decode prog_6_method_52_code 43 = .ok (.getfield 19, 3) := by decide +kernel
theorem eM_feed_46 : decode prog_6_method_52_code 46 = .ok (.aload_n 0, 1) := by decide +kernel
theorem eM_feed_47 : decode prog_6_method_52_code 47 = .ok (.getfield 146, 3) := by decide +kernel
theorem eM_feed_50 : decode prog_6_method_52_code 50 = .ok (.iload_n 1, 1) := by decide +kernel
theorem eM_feed_51 : decode prog_6_method_52_code 51 = .ok (.bipush 8, 2) := by decide +kernel
theorem eM_feed_53 : decode prog_6_method_52_code 53 = .ok (.iload_n 3, 1) := by decide +kernel
theorem eM_feed_54 : decode prog_6_method_52_code 54 = .ok (.imul, 1) := by decide +kernel
theorem eM_feed_55 : decode prog_6_method_52_code 55 = .ok (.ishr, 1) := by decide +kernel
theorem eM_feed_56 : decode prog_6_method_52_code 56 = .ok (.sipush 255, 3) := by decide +kernel
theorem eM_feed_59 : decode prog_6_method_52_code 59 = .ok (.iand, 1) := by decide +kernel
theorem eM_feed_60 : decode prog_6_method_52_code 60 = .ok (.iastore, 1) := by decide +kernel
theorem eM_feed_61 : decode prog_6_method_52_code 61 = .ok (.aload_n 0, 1) := by decide +kernel
theorem eM_feed_62 : decode prog_6_method_52_code 62 = .ok (.dup, 1) := by decide +kernel
theorem eM_feed_63 : decode prog_6_method_52_code 63 = .ok (.getfield 146, 3) := by decide +kernel
theorem eM_feed_66 : decode prog_6_method_52_code 66 = .ok (.iconst 1, 1) := by decide +kernel
theorem eM_feed_67 : decode prog_6_method_52_code 67 = .ok (.iadd, 1) := by decide +kernel
theorem eM_feed_68 : decode prog_6_method_52_code 68 = .ok (.putfield 146, 3) := by decide +kernel
theorem eM_feed_71 : decode prog_6_method_52_code 71 = .ok (.iinc 3 (-1), 3) := by decide +kernel
theorem eM_feed_74 : decode prog_6_method_52_code 74 = .ok (.goto (-36), 3) := by decide +kernel
theorem eM_feed_77 : decode prog_6_method_52_code 77 = .ok (.aload_n 0, 1) := by decide +kernel
theorem eM_feed_78 : decode prog_6_method_52_code 78 = .ok (.getfield 146, 3) := by decide +kernel
theorem eM_feed_81 : decode prog_6_method_52_code 81 = .ok (.ireturn, 1) := by decide +kernel
theorem eM_wipe_0 : decode prog_6_method_53_code 0 = .ok (.aload_n 0, 1) := by decide +kernel
theorem eM_wipe_1 : decode prog_6_method_53_code 1 = .ok (.getfield 146, 3) := by decide +kernel
theorem eM_wipe_4 : decode prog_6_method_53_code 4 = .ok (.istore_n 1, 1) := by decide +kernel
theorem eM_wipe_5 : decode prog_6_method_53_code 5 = .ok (.aload_n 0, 1) := by decide +kernel
theorem eM_wipe_6 : decode prog_6_method_53_code 6 = .ok (.iconst 0, 1) := by decide +kernel
theorem eM_wipe_7 : decode prog_6_method_53_code 7 = .ok (.putfield 146, 3) := by decide +kernel
theorem eM_wipe_10 : decode prog_6_method_53_code 10 = .ok (.iload_n 1, 1) := by decide +kernel
theorem eM_wipe_11 : decode prog_6_method_53_code 11 = .ok (.ireturn, 1) := by decide +kernel
theorem eM_palace_0 : decode prog_6_method_65_code 0 = .ok (.aload_n 0, 1) := by decide +kernel
theorem eM_palace_1 : decode prog_6_method_65_code 1 = .ok (.iconst 1, 1) := by decide +kernel
theorem eM_palace_2 : decode prog_6_method_65_code 2 = .ok (.aload_n 0, 1) := by decide +kernel
theorem eM_palace_3 : decode prog_6_method_65_code 3 = .ok (.getfield 38, 3) := by decide +kernel
theorem eM_palace_6 : decode prog_6_method_65_code 6 = .ok (.invokevirtual 142, 3) := by decide +kernel
theorem eM_palace_9 : decode prog_6_method_65_code 9 = .ok (.aload_n 0, 1) := by decide +kernel
theorem eM_palace_10 : decode prog_6_method_65_code 10 = .ok (.iconst 0, 1) := by decide +kernel
theorem eM_palace_11 : decode prog_6_method_65_code 11 = .ok (.putfield 149, 3) := by decide +kernel
theorem eM_palace_14 : decode prog_6_method_65_code 14 = .ok (.aload_n 0, 1) := by decide +kernel
theorem eM_palace_15 : decode prog_6_method_65_code 15 = .ok (.iconst 1, 1) := by decide +kernel
theorem eM_palace_16 : decode prog_6_method_65_code 16 = .ok (.putfield 196, 3) := by decide +kernel
theorem eM_palace_19 : decode prog_6_method_65_code 19 = .ok (.iconst 0, 1) := by decide +kernel
theorem eM_palace_20 : decode prog_6_method_65_code 20 = .ok (.istore_n 1, 1) := by decide +kernel
theorem eM_palace_21 : decode prog_6_method_65_code 21 = .ok (.iconst 1, 1) := by decide +kernel
theorem eM_palace_22 : decode prog_6_method_65_code 22 = .ok (.istore_n 2, 1) := by decide +kernel
theorem eM_palace_23 : decode prog_6_method_65_code 23 = .ok (.iload_n 2, 1) := by decide +kernel
theorem eM_palace_24 : decode prog_6_method_65_code 24 = .ok (.ifCond .eq 47, 3) := by decide +kernel
theorem eM_palace_27 : decode prog_6_method_65_code 27 = .ok (.aload_n 0, 1) := by decide +kernel
theorem eM_palace_28 : decode prog_6_method_65_code 28 = .ok (.invokevirtual 200, 3) := by decide +kernel
theorem eM_palace_31 : decode prog_6_method_65_code 31 = .ok (.aload_n 0, 1) := by decide +kernel
theorem eM_palace_32 : decode prog_6_method_65_code 32 = .ok (.invokevirtual 232, 3) := by decide +kernel
theorem eM_palace_35 : decode prog_6_method_65_code 35 = .ok (.iinc 1 1, 3) := by decide +kernel
theorem eM_palace_38 : decode prog_6_method_65_code 38 = .ok (.aload_n 0, 1) := by decide +kernel
theorem eM_palace_39 : decode prog_6_method_65_code 39 = .ok (.getfield 196, 3) := by decide +kernel
theorem eM_palace_42 : decode prog_6_method_65_code 42 = .ok (.ifCond .eq 24, 3) := by decide +kernel
theorem eM_palace_45 : decode prog_6_method_65_code 45 = .ok (.aload_n 0, 1) := by decide +kernel
theorem eM_palace_46 : decode prog_6_method_65_code 46 = .ok (.getfield 164, 3) := by decide +kernel
theorem eM_palace_49 : decode prog_6_method_65_code 49 = .ok (.iconst 3, 1) := by decide +kernel
theorem eM_palace_50 : decode prog_6_method_65_code 50 = .ok (.if_icmp .ne 16, 3) := by decide +kernel
theorem eM_palace_53 : decode prog_6_method_65_code 53 = .ok (.aload_n 0, 1) := by decide +kernel
theorem eM_palace_54 : decode prog_6_method_65_code 54 = .ok (.getfield 171, 3) := by decide +kernel
theorem eM_palace_57 : decode prog_6_method_65_code 57 = .ok (.bipush 59, 2) := by decide +kernel
theorem eM_palace_59 : decode prog_6_method_65_code 59 = .ok (.if_icmp .ne 7, 3) := by decide +kernel
theorem eM_palace_62 : decode prog_6_method_65_code 62 = .ok (.iconst 1, 1) := by decide +kernel
theorem eM_palace_63 : decode prog_6_method_65_code 63 = .ok (.goto 4, 3) := by decide +kernel
theorem eM_palace_66 : decode prog_6_method_65_code 66 = .ok (.iconst 0, 1) := by decide +kernel
theorem eM_palace_67 : decode prog_6_method_65_code 67 = .ok (.istore_n 2, 1) := by decide +kernel
theorem eM_palace_68 : decode prog_6_method_65_code 68 = .ok (.goto (-45), 3) := by decide +kernel
theorem eM_palace_71 : decode prog_6_method_65_code 71 = .ok (.aload_n 0, 1) := by decide +kernel
theorem eM_palace_72 : decode prog_6_method_65_code 72 = .ok (.aload_n 0, 1) := by decide +kernel
theorem eM_palace_73 : decode prog_6_method_65_code 73 = .ok (.getfield 196, 3) := by decide +kernel
theorem eM_palace_76 : decode prog_6_method_65_code 76 = .ok (.ifCond .eq 14, 3) := by decide +kernel
theorem eM_palace_79 : decode prog_6_method_65_code 79 = .ok (.aload_n 0, 1) := by decide +kernel
theorem eM_palace_80 : decode prog_6_method_65_code 80 = .ok (.getfield 164, 3) := by decide +kernel
theorem eM_palace_83 : decode prog_6_method_65_code 83 = .ok (.ifCond .ne 7, 3) := by decide +kernel
theorem eM_palace_86 : decode prog_6_method_65_code 86 = .ok (.iconst 1, 1) := by decide +kernel
theorem eM_palace_87 : decode prog_6_method_65_code 87 = .ok (.goto 4, 3) := by decide +kernel
theorem eM_palace_90 : decode prog_6_method_65_code 90 = .ok (.iconst 0, 1) := by decide +kernel
theorem eM_palace_91 : decode prog_6_method_65_code 91 = .ok (.putfield 196, 3) := by decide +kernel
theorem eM_palace_94 : decode prog_6_method_65_code 94 = .ok (.aload_n 0, 1) := by decide +kernel
theorem eM_palace_95 : decode prog_6_method_65_code 95 = .ok (.iconst 0, 1) := by decide +kernel
theorem eM_palace_96 : decode prog_6_method_65_code 96 = .ok (.putfield 146, 3) := by decide +kernel
theorem eM_palace_99 : decode prog_6_method_65_code 99 = .ok (.aload_n 0, 1) := by decide +kernel
theorem eM_palace_100 : decode prog_6_method_65_code 100 = .ok (.getfield 196, 3) := by decide +kernel
theorem eM_palace_103 : decode prog_6_method_65_code 103 = .ok (.ifCond .ne 19, 3) := by decide +kernel
theorem eM_palace_106 : decode prog_6_method_65_code 106 = .ok (.aload_n 0, 1) := by decide +kernel
theorem eM_palace_107 : decode prog_6_method_65_code 107 = .ok (.iconst 0, 1) := by decide +kernel
theorem eM_palace_108 : decode prog_6_method_65_code 108 = .ok (.aload_n 0, 1) := by decide +kernel
theorem eM_palace_109 : decode prog_6_method_65_code 109 = .ok (.getfield 38, 3) := by decide +kernel
theorem eM_palace_112 : decode prog_6_method_65_code 112 = .ok (.invokevirtual 142, 3) := by decide +kernel
theorem eM_palace_115 : decode prog_6_method_65_code 115 = .ok (.iconst (-1), 1) := by decide +kernel
theorem eM_palace_116 : decode prog_6_method_65_code 116 = .ok (.aload_n 0, 1) := by decide +kernel
theorem eM_palace_117 : decode prog_6_method_65_code 117 = .ok (.getfield 152, 3) := by decide +kernel
theorem eM_palace_120 : decode prog_6_method_65_code 120 = .ok (.isub, 1) := by decide +kernel
theorem eM_palace_121 : decode prog_6_method_65_code 121 = .ok (.ireturn, 1) := by decide +kernel
theorem eM_palace_122 : decode prog_6_method_65_code 122 = .ok (.iload_n 1, 1) := by decide +kernel
theorem eM_palace_123 : decode prog_6_method_65_code 123 = .ok (.ireturn, 1) := by decide +kernel
theorem eM_advance_0 : decode prog_6_method_57_code 0 = .ok (.aload_n 0, 1) := by decide +kernel
theorem eM_advance_1 : decode prog_6_method_57_code 1 = .ok (.aload_n 0, 1) := by decide +kernel
theorem eM_advance_2 : decode prog_6_method_57_code 2 = .ok (.getfield 149, 3) := by decide +kernel
theorem eM_advance_5 : decode prog_6_method_57_code 5 = .ok (.putfield 152, 3) := by decide +kernel
theorem eM_advance_8 : decode prog_6_method_57_code 8 = .ok (.aload_n 0, 1) := by decide +kernel
theorem eM_advance_9 : decode prog_6_method_57_code 9 = .ok (.aload_n 0, 1) := by decide +kernel
theorem eM_advance_10 : decode prog_6_method_57_code 10 = .ok (.getfield 152, 3) := by decide +kernel
theorem eM_advance_13 : decode prog_6_method_57_code 13 = .ok (.invokevirtual 155, 3) := by decide +kernel
theorem eM_advance_16 : decode prog_6_method_57_code 16 = .ok (.bipush 32, 2) := by decide +kernel
theorem eM_advance_18 : decode prog_6_method_57_code 18 = .ok (.if_icmp .ne 16, 3) := by decide +kernel
theorem eM_advance_21 : decode prog_6_method_57_code 21 = .ok (.aload_n 0, 1) := by decide +kernel
theorem eM_advance_22 : decode prog_6_method_57_code 22 = .ok (.dup, 1) := by decide +kernel
theorem eM_advance_23 : decode prog_6_method_57_code 23 = .ok (.getfield 152, 3) := by decide +kernel
theorem eM_advance_26 : decode prog_6_method_57_code 26 = .ok (.iconst 1, 1) := by decide +kernel
theorem eM_advance_27 : decode prog_6_method_57_code 27 = .ok (.iadd, 1) := by decide +kernel
theorem eM_advance_28 : decode prog_6_method_57_code 28 = .ok (.putfield 152, 3) := by decide +kernel
theorem eM_advance_31 : decode prog_6_method_57_code 31 = .ok (.goto (-23), 3) := by decide +kernel
theorem eM_advance_34 : decode prog_6_method_57_code 34 = .ok (.aload_n 0, 1) := by decide +kernel
theorem eM_advance_35 : decode prog_6_method_57_code 35 = .ok (.aload_n 0, 1) := by decide +kernel
theorem eM_advance_36 : decode prog_6_method_57_code 36 = .ok (.getfield 152, 3) := by decide +kernel
theorem eM_advance_39 : decode prog_6_method_57_code 39 = .ok (.putfield 149, 3) := by decide +kernel
theorem eM_advance_42 : decode prog_6_method_57_code 42 = .ok (.aload_n 0, 1) := by decide +kernel
theorem eM_advance_43 : decode prog_6_method_57_code 43 = .ok (.aload_n 0, 1) := by decide +kernel
theorem eM_advance_44 : decode prog_6_method_57_code 44 = .ok (.getfield 152, 3) := by decide +kernel
theorem eM_advance_47 : decode prog_6_method_57_code 47 = .ok (.invokevirtual 155, 3) := by decide +kernel
theorem eM_advance_50 : decode prog_6_method_57_code 50 = .ok (.istore_n 1, 1) := by decide +kernel
theorem eM_advance_51 : decode prog_6_method_57_code 51 = .ok (.aload_n 0, 1) := by decide +kernel
theorem eM_advance_52 : decode prog_6_method_57_code 52 = .ok (.iload_n 1, 1) := by decide +kernel
theorem eM_advance_53 : decode prog_6_method_57_code 53 = .ok (.ifCond .ge 7, 3) := by decide +kernel
theorem eM_advance_56 : decode prog_6_method_57_code 56 = .ok (.iconst 0, 1) := by decide +kernel
theorem eM_advance_57 : decode prog_6_method_57_code 57 = .ok (.goto 26, 3) := by decide +kernel
theorem eM_advance_60 : decode prog_6_method_57_code 60 = .ok (.iload_n 1, 1) := by decide +kernel
theorem eM_advance_61 : decode prog_6_method_57_code 61 = .ok (.invokestatic 158, 3) := by decide +kernel
theorem eM_advance_64 : decode prog_6_method_57_code 64 = .ok (.ifCond .eq 7, 3) := by decide +kernel
theorem eM_advance_67 : decode prog_6_method_57_code 67 = .ok (.iconst 1, 1) := by decide +kernel
theorem eM_advance_68 : decode prog_6_method_57_code 68 = .ok (.goto 15, 3) := by decide +kernel
theorem eM_advance_71 : decode prog_6_method_57_code 71 = .ok (.iload_n 1, 1) := by decide +kernel
theorem eM_advance_72 : decode prog_6_method_57_code 72 = .ok (.invokestatic 161, 3) := by decide +kernel
theorem eM_advance_75 : decode prog_6_method_57_code 75 = .ok (.ifCond .eq 7, 3) := by decide +kernel
theorem eM_advance_78 : decode prog_6_method_57_code 78 = .ok (.iconst 2, 1) := by decide +kernel
theorem eM_advance_79 : decode prog_6_method_57_code 79 = .ok (.goto 4, 3) := by decide +kernel
theorem eM_advance_82 : decode prog_6_method_57_code 82 = .ok (.iconst 3, 1) := by decide +kernel
theorem eM_advance_83 : decode prog_6_method_57_code 83 = .ok (.putfield 164, 3) := by decide +kernel
theorem eM_advance_86 : decode prog_6_method_57_code 86 = .ok (.aload_n 0, 1) := by decide +kernel
theorem eM_advance_87 : decode prog_6_method_57_code 87 = .ok (.lconst 0, 1) := by decide +kernel
theorem eM_advance_88 : decode prog_6_method_57_code 88 = .ok (.putfield 167, 3) := by decide +kernel
theorem eM_advance_91 : decode prog_6_method_57_code 91 = .ok (.aload_n 0, 1) := by decide +kernel
theorem eM_advance_92 : decode prog_6_method_57_code 92 = .ok (.aload_n 0, 1) := by decide +kernel
theorem eM_advance_93 : decode prog_6_method_57_code 93 = .ok (.getfield 164, 3) := by decide +kernel
theorem eM_advance_96 : decode prog_6_method_57_code 96 = .ok (.iconst 2, 1) := by decide +kernel
theorem eM_advance_97 : decode prog_6_method_57_code 97 = .ok (.if_icmp .ne 7, 3) := by decide +kernel
theorem eM_advance_100 : decode prog_6_method_57_code 100 = .ok (.iconst 0, 1) := by decide +kernel
theorem eM_advance_101 : decode prog_6_method_57_code 101 = .ok (.goto 4, 3) := by decide +kernel
theorem eM_advance_104 : decode prog_6_method_57_code 104 = .ok (.iload_n 1, 1) := by decide +kernel
theorem eM_advance_105 : decode prog_6_method_57_code 105 = .ok (.putfield 171, 3) := by decide +kernel
theorem eM_advance_108 : decode prog_6_method_57_code 108 = .ok (.aload_n 0, 1) := by decide +kernel
theorem eM_advance_109 : decode prog_6_method_57_code 109 = .ok (.getfield 164, 3) := by decide +kernel
theorem eM_advance_112 : decode prog_6_method_57_code 112 = .ok (.iconst 3, 1) := by decide +kernel
theorem eM_advance_113 : decode prog_6_method_57_code 113 = .ok (.if_icmp .ne 13, 3) := by decide +kernel
theorem eM_advance_116 : decode prog_6_method_57_code 116 = .ok (.aload_n 0, 1) := by decide +kernel
theorem eM_advance_117 : decode prog_6_method_57_code 117 = .ok (.dup, 1) := by decide +kernel
theorem eM_advance_118 : decode prog_6_method_57_code 118 = .ok (.getfield 149, 3) := by decide +kernel
theorem eM_advance_121 : decode prog_6_method_57_code 121 = .ok (.iconst 1, 1) := by decide +kernel
theorem eM_advance_122 : decode prog_6_method_57_code 122 = .ok (.iadd, 1) := by decide +kernel
theorem eM_advance_123 : decode prog_6_method_57_code 123 = .ok (.putfield 149, 3) := by decide +kernel
theorem eM_advance_126 : decode prog_6_method_57_code 126 = .ok (.aload_n 0, 1) := by decide +kernel
theorem eM_advance_127 : decode prog_6_method_57_code 127 = .ok (.getfield 164, 3) := by decide +kernel
theorem eM_advance_130 : decode prog_6_method_57_code 130 = .ok (.iconst 1, 1) := by decide +kernel
theorem eM_advance_131 : decode prog_6_method_57_code 131 = .ok (.if_icmp .ne 76, 3) := by decide +kernel
theorem eM_advance_134 : decode prog_6_method_57_code 134 = .ok (.aload_n 0, 1) := by decide +kernel
theorem eM_advance_135 : decode prog_6_method_57_code 135 = .ok (.aload_n 0, 1) := by decide +kernel
theorem eM_advance_136 : decode prog_6_method_57_code 136 = .ok (.getfield 149, 3) := by decide +kernel
theorem eM_advance_139 : decode prog_6_method_57_code 139 = .ok (.invokevirtual 155, 3) := by decide +kernel
theorem eM_advance_142 : decode prog_6_method_57_code 142 = .ok (.invokestatic 158, 3) := by decide +kernel
theorem eM_advance_145 : decode prog_6_method_57_code 145 = .ok (.ifCond .eq 62, 3) := by decide +kernel
theorem eM_advance_148 : decode prog_6_method_57_code 148 = .ok (.aload_n 0, 1) := by decide +kernel
theorem eM_advance_149 : decode prog_6_method_57_code 149 = .ok (.aload_n 0, 1) := by decide +kernel
theorem eM_advance_150 : decode prog_6_method_57_code 150 = .ok (.getfield 149, 3) := by decide +kernel
theorem eM_advance_153 : decode prog_6_method_57_code 153 = .ok (.aload_n 0, 1) := by decide +kernel
theorem eM_advance_154 : decode prog_6_method_57_code 154 = .ok (.getfield 152, 3) := by decide +kernel
theorem eM_advance_157 : decode prog_6_method_57_code 157 = .ok (.isub, 1) := by decide +kernel
theorem eM_advance_158 : decode prog_6_method_57_code 158 = .ok (.bipush 12, 2) := by decide +kernel
theorem eM_advance_160 : decode prog_6_method_57_code 160 = .ok (.if_icmp .ge 28, 3) := by decide +kernel
theorem eM_advance_163 : decode prog_6_method_57_code 163 = .ok (.ldc2_w 174, 3) := by decide +kernel
theorem eM_advance_166 : decode prog_6_method_57_code 166 = .ok (.aload_n 0, 1) := by decide +kernel
theorem eM_advance_167 : decode prog_6_method_57_code 167 = .ok (.getfield 167, 3) := by decide +kernel
theorem eM_advance_170 : decode prog_6_method_57_code 170 = .ok (.lmul, 1) := by decide +kernel
theorem eM_advance_171 : decode prog_6_method_57_code 171 = .ok (.aload_n 0, 1) := by decide +kernel
theorem eM_advance_172 : decode prog_6_method_57_code 172 = .ok (.aload_n 0, 1) := by decide +kernel
theorem eM_advance_173 : decode prog_6_method_57_code 173 = .ok (.getfield 149, 3) := by decide +kernel
theorem eM_advance_176 : decode prog_6_method_57_code 176 = .ok (.invokevirtual 155, 3) := by decide +kernel
theorem eM_advance_179 : decode prog_6_method_57_code 179 = .ok (.i2l, 1) := by decide +kernel
theorem eM_advance_180 : decode prog_6_method_57_code 180 = .ok (.ladd, 1) := by decide +kernel
theorem eM_advance_181 : decode prog_6_method_57_code 181 = .ok (.ldc2_w 176, 3) := by decide +kernel
theorem eM_advance_184 : decode prog_6_method_57_code 184 = .ok (.lsub, 1) := by decide +kernel
theorem eM_advance_185 : decode prog_6_method_57_code 185 = .ok (.goto 6, 3) := by decide +kernel
theorem eM_advance_188 : decode prog_6_method_57_code 188 = .ok (.ldc2_w 178, 3) := by decide +kernel
theorem eM_advance_191 : decode prog_6_method_57_code 191 = .ok (.putfield 167, 3) := by decide +kernel
theorem eM_advance_194 : decode prog_6_method_57_code 194 = .ok (.aload_n 0, 1) := by decide +kernel
theorem eM_advance_195 : decode prog_6_method_57_code 195 = .ok (.dup, 1) := by decide +kernel
theorem eM_advance_196 : decode prog_6_method_57_code 196 = .ok (.getfield 149, 3) := by decide +kernel
theorem eM_advance_199 : decode prog_6_method_57_code 199 = .ok (.iconst 1, 1) := by decide +kernel
theorem eM_advance_200 : decode prog_6_method_57_code 200 = .ok (.iadd, 1) := by decide +kernel
theorem eM_advance_201 : decode prog_6_method_57_code 201 = .ok (.putfield 149, 3) := by decide +kernel
theorem eM_advance_204 : decode prog_6_method_57_code 204 = .ok (.goto (-78), 3) := by decide +kernel
theorem eM_advance_207 : decode prog_6_method_57_code 207 = .ok (.aload_n 0, 1) := by decide +kernel
theorem eM_advance_208 : decode prog_6_method_57_code 208 = .ok (.getfield 164, 3) := by decide +kernel
theorem eM_advance_211 : decode prog_6_method_57_code 211 = .ok (.iconst 2, 1) := by decide +kernel
theorem eM_advance_212 : decode prog_6_method_57_code 212 = .ok (.if_icmp .ne 69, 3) := by decide +kernel
theorem eM_advance_215 : decode prog_6_method_57_code 215 = .ok (.aload_n 0, 1) := by decide +kernel
theorem eM_advance_216 : decode prog_6_method_57_code 216 = .ok (.aload_n 0, 1) := by decide +kernel
theorem eM_advance_217 : decode prog_6_method_57_code 217 = .ok (.getfield 149, 3) := by decide +kernel
theorem eM_advance_220 : decode prog_6_method_57_code 220 = .ok (.invokevirtual 155, 3) := by decide +kernel
theorem eM_advance_223 : decode prog_6_method_57_code 223 = .ok (.invokestatic 161, 3) := by decide +kernel
theorem eM_advance_226 : decode prog_6_method_57_code 226 = .ok (.ifCond .eq 55, 3) := by decide +kernel
theorem eM_advance_229 : decode prog_6_method_57_code 229 = .ok (.aload_n 0, 1) := by decide +kernel
theorem eM_advance_230 : decode prog_6_method_57_code 230 = .ok (.aload_n 0, 1) := by decide +kernel
theorem eM_advance_231 : decode prog_6_method_57_code 231 = .ok (.getfield 171, 3) := by decide +kernel
theorem eM_advance_234 : decode prog_6_method_57_code 234 = .ok (.sipush 999, 3) := by decide +kernel
theorem eM_advance_237 : decode prog_6_method_57_code 237 = .ok (.if_icmp .le 9, 3) := by decide +kernel
theorem eM_advance_240 : decode prog_6_method_57_code 240 = .ok (.sipush 10000, 3) := by decide +kernel
theorem eM_advance_243 : decode prog_6_method_57_code 243 = .ok (.goto 22, 3) := by decide +kernel
theorem eM_advance_246 : decode prog_6_method_57_code 246 = .ok (.bipush 10, 2) := by decide +kernel
theorem eM_advance_248 : decode prog_6_method_57_code 248 = .ok (.aload_n 0, 1) := by decide +kernel
theorem eM_advance_249 : decode prog_6_method_57_code 249 = .ok (.getfield 171, 3) := by decide +kernel
theorem eM_advance_252 : decode prog_6_method_57_code 252 = .ok (.imul, 1) := by decide +kernel
theorem eM_advance_253 : decode prog_6_method_57_code 253 = .ok (.aload_n 0, 1) := by decide +kernel
theorem eM_advance_254 : decode prog_6_method_57_code 254 = .ok (.aload_n 0, 1) := by decide +kernel
theorem eM_advance_255 : decode prog_6_method_57_code 255 = .ok (.getfield 149, 3) := by decide +kernel
theorem eM_advance_258 : decode prog_6_method_57_code 258 = .ok (.invokevirtual 155, 3) := by decide +kernel
theorem eM_advance_261 : decode prog_6_method_57_code 261 = .ok (.iadd, 1) := by decide +kernel
theorem eM_advance_262 : decode prog_6_method_57_code 262 = .ok (.bipush 48, 2) := by decide +kernel
theorem eM_advance_264 : decode prog_6_method_57_code 264 = .ok (.isub, 1) := by decide +kernel
theorem eM_advance_265 : decode prog_6_method_57_code 265 = .ok (.putfield 171, 3) := by decide +kernel
theorem eM_advance_268 : decode prog_6_method_57_code 268 = .ok (.aload_n 0, 1) := by decide +kernel
theorem eM_advance_269 : decode prog_6_method_57_code 269 = .ok (.dup, 1) := by decide +kernel
theorem eM_advance_270 : decode prog_6_method_57_code 270 = .ok (.getfield 149, 3) := by decide +kernel
theorem eM_advance_273 : decode prog_6_method_57_code 273 = .ok (.iconst 1, 1) := by decide +kernel
theorem eM_advance_274 : decode prog_6_method_57_code 274 = .ok (.iadd, 1) := by decide +kernel
theorem eM_advance_275 : decode prog_6_method_57_code 275 = .ok (.putfield 149, 3) := by decide +kernel
theorem eM_advance_278 : decode prog_6_method_57_code 278 = .ok (.goto (-71), 3) := by decide +kernel
theorem eM_advance_281 : decode prog_6_method_57_code 281 = .ok (.return_, 1) := by decide +kernel
theorem eM_byteAt_0 : decode prog_6_method_54_code 0 = .ok (.iload_n 1, 1) := by decide +kernel
theorem eM_byteAt_1 : decode prog_6_method_54_code 1 = .ok (.aload_n 0, 1) := by decide +kernel
theorem eM_byteAt_2 : decode prog_6_method_54_code 2 = .ok (.getfield 146, 3) := by decide +kernel
theorem eM_byteAt_5 : decode prog_6_method_54_code 5 = .ok (.if_icmp .ge 12, 3) := by decide +kernel
theorem eM_byteAt_8 : decode prog_6_method_54_code 8 = .ok (.aload_n 0, 1) := by decide +kernel
theorem eM_byteAt_9 : decode prog_6_method_54_code 9 = .ok (.getfield 19, 3) := by decide +kernel
theorem eM_byteAt_12 : decode prog_6_method_54_code 12 = .ok (.iload_n 1, 1) := by decide +kernel
theorem eM_byteAt_13 : decode prog_6_method_54_code 13 = .ok (.iaload, 1) := by decide +kernel
theorem eM_byteAt_14 : decode prog_6_method_54_code 14 = .ok (.goto 4, 3) := by decide +kernel
theorem eM_byteAt_17 : decode prog_6_method_54_code 17 = .ok (.iconst (-1), 1) := by decide +kernel
theorem eM_byteAt_18 : decode prog_6_method_54_code 18 = .ok (.ireturn, 1) := by decide +kernel
theorem eM_isLetter_0 : decode prog_6_method_55_code 0 = .ok (.iload_n 0, 1) := by decide +kernel
theorem eM_isLetter_1 : decode prog_6_method_55_code 1 = .ok (.bipush 97, 2) := by decide +kernel
theorem eM_isLetter_3 : decode prog_6_method_55_code 3 = .ok (.bipush 122, 2) := by decide +kernel
theorem eM_isLetter_5 : decode prog_6_method_55_code 5 = .ok (.invokestatic 42, 3) := by decide +kernel
theorem eM_isLetter_8 : decode prog_6_method_55_code 8 = .ok (.ireturn, 1) := by decide +kernel
theorem eM_isDigit_0 : decode prog_6_method_56_code 0 = .ok (.iload_n 0, 1) := by decide +kernel
theorem eM_isDigit_1 : decode prog_6_method_56_code 1 = .ok (.bipush 48, 2) := by decide +kernel
theorem eM_isDigit_3 : decode prog_6_method_56_code 3 = .ok (.bipush 57, 2) := by decide +kernel
theorem eM_isDigit_5 : decode prog_6_method_56_code 5 = .ok (.invokestatic 42, 3) := by decide +kernel
theorem eM_isDigit_8 : decode prog_6_method_56_code 8 = .ok (.ireturn, 1) := by decide +kernel
theorem eM_wantItem_0 : decode prog_6_method_64_code 0 = .ok (.aload_n 0, 1) := by decide +kernel
theorem eM_wantItem_1 : decode prog_6_method_64_code 1 = .ok (.invokevirtual 216, 3) := by decide +kernel
theorem eM_wantItem_4 : decode prog_6_method_64_code 4 = .ok (.ifCond .lt 14, 3) := by decide +kernel
theorem eM_wantItem_7 : decode prog_6_method_64_code 7 = .ok (.aload_n 0, 1) := by decide +kernel
theorem eM_wantItem_8 : decode prog_6_method_64_code 8 = .ok (.aload_n 0, 1) := by decide +kernel
theorem eM_wantItem_9 : decode prog_6_method_64_code 9 = .ok (.invokevirtual 216, 3) := by decide +kernel
theorem eM_wantItem_12 : decode prog_6_method_64_code 12 = .ok (.invokevirtual 219, 3) := by decide +kernel
theorem eM_wantItem_15 : decode prog_6_method_64_code 15 = .ok (.goto 70, 3) := by decide +kernel
theorem eM_wantItem_18 : decode prog_6_method_64_code 18 = .ok (.aload_n 0, 1) := by decide +kernel
theorem eM_wantItem_19 : decode prog_6_method_64_code 19 = .ok (.ldc2_w 223, 3) := by decide +kernel
theorem eM_wantItem_22 : decode prog_6_method_64_code 22 = .ok (.invokevirtual 182, 3) := by decide +kernel
theorem eM_wantItem_25 : decode prog_6_method_64_code 25 = .ok (.ifCond .eq 14, 3) := by decide +kernel
theorem eM_wantItem_28 : decode prog_6_method_64_code 28 = .ok (.aload_n 0, 1) := by decide +kernel
theorem eM_wantItem_29 : decode prog_6_method_64_code 29 = .ok (.iconst 1, 1) := by decide +kernel
theorem eM_wantItem_30 : decode prog_6_method_64_code 30 = .ok (.iconst 1, 1) := by decide +kernel
theorem eM_wantItem_31 : decode prog_6_method_64_code 31 = .ok (.bipush 60, 2) := by decide +kernel
theorem eM_wantItem_33 : decode prog_6_method_64_code 33 = .ok (.invokevirtual 225, 3) := by decide +kernel
theorem eM_wantItem_36 : decode prog_6_method_64_code 36 = .ok (.goto 49, 3) := by decide +kernel
theorem eM_wantItem_39 : decode prog_6_method_64_code 39 = .ok (.aload_n 0, 1) := by decide +kernel
theorem eM_wantItem_40 : decode prog_6_method_64_code 40 = .ok (.ldc2_w 228, 3) := by decide +kernel
theorem eM_wantItem_43 : decode prog_6_method_64_code 43 = .ok (.invokevirtual 182, 3) := by decide +kernel
theorem eM_wantItem_46 : decode prog_6_method_64_code 46 = .ok (.ifCond .eq 14, 3) := by decide +kernel
theorem eM_wantItem_49 : decode prog_6_method_64_code 49 = .ok (.aload_n 0, 1) := by decide +kernel
theorem eM_wantItem_50 : decode prog_6_method_64_code 50 = .ok (.iconst 2, 1) := by decide +kernel
theorem eM_wantItem_51 : decode prog_6_method_64_code 51 = .ok (.iconst 0, 1) := by decide +kernel
theorem eM_wantItem_52 : decode prog_6_method_64_code 52 = .ok (.bipush 60, 2) := by decide +kernel
theorem eM_wantItem_54 : decode prog_6_method_64_code 54 = .ok (.invokevirtual 225, 3) := by decide +kernel
theorem eM_wantItem_57 : decode prog_6_method_64_code 57 = .ok (.goto 28, 3) := by decide +kernel
theorem eM_wantItem_60 : decode prog_6_method_64_code 60 = .ok (.aload_n 0, 1) := by decide +kernel
theorem eM_wantItem_61 : decode prog_6_method_64_code 61 = .ok (.ldc2_w 230, 3) := by decide +kernel
theorem eM_wantItem_64 : decode prog_6_method_64_code 64 = .ok (.invokevirtual 182, 3) := by decide +kernel
theorem eM_wantItem_67 : decode prog_6_method_64_code 67 = .ok (.ifCond .eq 13, 3) := by decide +kernel
theorem eM_wantItem_70 : decode prog_6_method_64_code 70 = .ok (.aload_n 0, 1) := by decide +kernel
theorem eM_wantItem_71 : decode prog_6_method_64_code 71 = .ok (.iconst 3, 1) := by decide +kernel
theorem eM_wantItem_72 : decode prog_6_method_64_code 72 = .ok (.iconst 0, 1) := by decide +kernel
theorem eM_wantItem_73 : decode prog_6_method_64_code 73 = .ok (.iconst 3, 1) := by decide +kernel
theorem eM_wantItem_74 : decode prog_6_method_64_code 74 = .ok (.invokevirtual 225, 3) := by decide +kernel
theorem eM_wantItem_77 : decode prog_6_method_64_code 77 = .ok (.goto 8, 3) := by decide +kernel
theorem eM_wantItem_80 : decode prog_6_method_64_code 80 = .ok (.aload_n 0, 1) := by decide +kernel
theorem eM_wantItem_81 : decode prog_6_method_64_code 81 = .ok (.iconst 0, 1) := by decide +kernel
theorem eM_wantItem_82 : decode prog_6_method_64_code 82 = .ok (.putfield 196, 3) := by decide +kernel
theorem eM_wantItem_85 : decode prog_6_method_64_code 85 = .ok (.return_, 1) := by decide +kernel
theorem eM_kindHere_0 : decode prog_6_method_59_code 0 = .ok (.aload_n 0, 1) := by decide +kernel
theorem eM_kindHere_1 : decode prog_6_method_59_code 1 = .ok (.ldc2_w 180, 3) := by decide +kernel
theorem eM_kindHere_4 : decode prog_6_method_59_code 4 = .ok (.invokevirtual 182, 3) := by decide +kernel
theorem eM_kindHere_7 : decode prog_6_method_59_code 7 = .ok (.ifCond .eq 7, 3) := by decide +kernel
theorem eM_kindHere_10 : decode prog_6_method_59_code 10 = .ok (.iconst 0, 1) := by decide +kernel
theorem eM_kindHere_11 : decode prog_6_method_59_code 11 = .ok (.goto 74, 3) := by decide +kernel
theorem eM_kindHere_14 : decode prog_6_method_59_code 14 = .ok (.aload_n 0, 1) := by decide +kernel
theorem eM_kindHere_15 : decode prog_6_method_59_code 15 = .ok (.ldc2_w 186, 3) := by decide +kernel
theorem eM_kindHere_18 : decode prog_6_method_59_code 18 = .ok (.invokevirtual 182, 3) := by decide +kernel
theorem eM_kindHere_21 : decode prog_6_method_59_code 21 = .ok (.ifCond .eq 7, 3) := by decide +kernel
theorem eM_kindHere_24 : decode prog_6_method_59_code 24 = .ok (.iconst 1, 1) := by decide +kernel
theorem eM_kindHere_25 : decode prog_6_method_59_code 25 = .ok (.goto 60, 3) := by decide +kernel
theorem eM_kindHere_28 : decode prog_6_method_59_code 28 = .ok (.aload_n 0, 1) := by decide +kernel
theorem eM_kindHere_29 : decode prog_6_method_59_code 29 = .ok (.ldc2_w 188, 3) := by decide +kernel
theorem eM_kindHere_32 : decode prog_6_method_59_code 32 = .ok (.invokevirtual 182, 3) := by decide +kernel
theorem eM_kindHere_35 : decode prog_6_method_59_code 35 = .ok (.ifCond .eq 7, 3) := by decide +kernel
theorem eM_kindHere_38 : decode prog_6_method_59_code 38 = .ok (.iconst 2, 1) := by decide +kernel
theorem eM_kindHere_39 : decode prog_6_method_59_code 39 = .ok (.goto 46, 3) := by decide +kernel
theorem eM_kindHere_42 : decode prog_6_method_59_code 42 = .ok (.aload_n 0, 1) := by decide +kernel
theorem eM_kindHere_43 : decode prog_6_method_59_code 43 = .ok (.ldc2_w 190, 3) := by decide +kernel
theorem eM_kindHere_46 : decode prog_6_method_59_code 46 = .ok (.invokevirtual 182, 3) := by decide +kernel
theorem eM_kindHere_49 : decode prog_6_method_59_code 49 = .ok (.ifCond .eq 7, 3) := by decide +kernel
theorem eM_kindHere_52 : decode prog_6_method_59_code 52 = .ok (.iconst 3, 1) := by decide +kernel
theorem eM_kindHere_53 : decode prog_6_method_59_code 53 = .ok (.goto 32, 3) := by decide +kernel
theorem eM_kindHere_56 : decode prog_6_method_59_code 56 = .ok (.aload_n 0, 1) := by decide +kernel
theorem eM_kindHere_57 : decode prog_6_method_59_code 57 = .ok (.ldc2_w 192, 3) := by decide +kernel
theorem eM_kindHere_60 : decode prog_6_method_59_code 60 = .ok (.invokevirtual 182, 3) := by decide +kernel
theorem eM_kindHere_63 : decode prog_6_method_59_code 63 = .ok (.ifCond .eq 7, 3) := by decide +kernel
theorem eM_kindHere_66 : decode prog_6_method_59_code 66 = .ok (.iconst 4, 1) := by decide +kernel
theorem eM_kindHere_67 : decode prog_6_method_59_code 67 = .ok (.goto 18, 3) := by decide +kernel
theorem eM_kindHere_70 : decode prog_6_method_59_code 70 = .ok (.aload_n 0, 1) := by decide +kernel
theorem eM_kindHere_71 : decode prog_6_method_59_code 71 = .ok (.ldc2_w 194, 3) := by decide +kernel
theorem eM_kindHere_74 : decode prog_6_method_59_code 74 = .ok (.invokevirtual 182, 3) := by decide +kernel
theorem eM_kindHere_77 : decode prog_6_method_59_code 77 = .ok (.ifCond .eq 7, 3) := by decide +kernel
theorem eM_kindHere_80 : decode prog_6_method_59_code 80 = .ok (.iconst 5, 1) := by decide +kernel
theorem eM_kindHere_81 : decode prog_6_method_59_code 81 = .ok (.goto 4, 3) := by decide +kernel
theorem eM_kindHere_84 : decode prog_6_method_59_code 84 = .ok (.iconst (-1), 1) := by decide +kernel
theorem eM_kindHere_85 : decode prog_6_method_59_code 85 = .ok (.ireturn, 1) := by decide +kernel
theorem eM_isWord_0 : decode prog_6_method_58_code 0 = .ok (.aload_n 0, 1) := by decide +kernel
theorem eM_isWord_1 : decode prog_6_method_58_code 1 = .ok (.getfield 164, 3) := by decide +kernel
theorem eM_isWord_4 : decode prog_6_method_58_code 4 = .ok (.iconst 1, 1) := by decide +kernel
theorem eM_isWord_5 : decode prog_6_method_58_code 5 = .ok (.if_icmp .ne 16, 3) := by decide +kernel
theorem eM_isWord_8 : decode prog_6_method_58_code 8 = .ok (.aload_n 0, 1) := by decide +kernel
theorem eM_isWord_9 : decode prog_6_method_58_code 9 = .ok (.getfield 167, 3) := by decide +kernel
theorem eM_isWord_12 : decode prog_6_method_58_code 12 = .ok (.lload_n 1, 1) := by decide +kernel
theorem eM_isWord_13 : decode prog_6_method_58_code 13 = .ok (.lcmp, 1) := by decide +kernel
theorem eM_isWord_14 : decode prog_6_method_58_code 14 = .ok (.ifCond .ne 7, 3) := by decide +kernel
theorem eM_isWord_17 : decode prog_6_method_58_code 17 = .ok (.iconst 1, 1) := by decide +kernel
theorem eM_isWord_18 : decode prog_6_method_58_code 18 = .ok (.goto 4, 3) := by decide +kernel
theorem eM_isWord_21 : decode prog_6_method_58_code 21 = .ok (.iconst 0, 1) := by decide +kernel
theorem eM_isWord_22 : decode prog_6_method_58_code 22 = .ok (.ireturn, 1) := by decide +kernel
theorem eM_wantRota_0 : decode prog_6_method_63_code 0 = .ok (.aload_n 0, 1) := by decide +kernel
theorem eM_wantRota_1 : decode prog_6_method_63_code 1 = .ok (.invokevirtual 200, 3) := by decide +kernel
theorem eM_wantRota_4 : decode prog_6_method_63_code 4 = .ok (.aload_n 0, 1) := by decide +kernel
theorem eM_wantRota_5 : decode prog_6_method_63_code 5 = .ok (.iload_n 2, 1) := by decide +kernel
theorem eM_wantRota_6 : decode prog_6_method_63_code 6 = .ok (.iload_n 3, 1) := by decide +kernel
theorem eM_wantRota_7 : decode prog_6_method_63_code 7 = .ok (.invokevirtual 203, 3) := by decide +kernel
theorem eM_wantRota_10 : decode prog_6_method_63_code 10 = .ok (.istore 4, 2) := by decide +kernel
theorem eM_wantRota_12 : decode prog_6_method_63_code 12 = .ok (.aload_n 0, 1) := by decide +kernel
theorem eM_wantRota_13 : decode prog_6_method_63_code 13 = .ok (.getfield 7, 3) := by decide +kernel
theorem eM_wantRota_16 : decode prog_6_method_63_code 16 = .ok (.iload_n 1, 1) := by decide +kernel
theorem eM_wantRota_17 : decode prog_6_method_63_code 17 = .ok (.aload_n 0, 1) := by decide +kernel
theorem eM_wantRota_18 : decode prog_6_method_63_code 18 = .ok (.getfield 196, 3) := by decide +kernel
theorem eM_wantRota_21 : decode prog_6_method_63_code 21 = .ok (.ifCond .eq 8, 3) := by decide +kernel
theorem eM_wantRota_24 : decode prog_6_method_63_code 24 = .ok (.iload 4, 2) := by decide +kernel
theorem eM_wantRota_26 : decode prog_6_method_63_code 26 = .ok (.goto 9, 3) := by decide +kernel
theorem eM_wantRota_29 : decode prog_6_method_63_code 29 = .ok (.aload_n 0, 1) := by decide +kernel
theorem eM_wantRota_30 : decode prog_6_method_63_code 30 = .ok (.getfield 7, 3) := by decide +kernel
theorem eM_wantRota_33 : decode prog_6_method_63_code 33 = .ok (.iload_n 1, 1) := by decide +kernel
theorem eM_wantRota_34 : decode prog_6_method_63_code 34 = .ok (.iaload, 1) := by decide +kernel
theorem eM_wantRota_35 : decode prog_6_method_63_code 35 = .ok (.iastore, 1) := by decide +kernel
theorem eM_wantRota_36 : decode prog_6_method_63_code 36 = .ok (.return_, 1) := by decide +kernel
theorem eM_wantNumber_0 : decode prog_6_method_60_code 0 = .ok (.aload_n 0, 1) := by decide +kernel
theorem eM_wantNumber_1 : decode prog_6_method_60_code 1 = .ok (.getfield 171, 3) := by decide +kernel
theorem eM_wantNumber_4 : decode prog_6_method_60_code 4 = .ok (.istore_n 3, 1) := by decide +kernel
theorem eM_wantNumber_5 : decode prog_6_method_60_code 5 = .ok (.aload_n 0, 1) := by decide +kernel
theorem eM_wantNumber_6 : decode prog_6_method_60_code 6 = .ok (.aload_n 0, 1) := by decide +kernel
theorem eM_wantNumber_7 : decode prog_6_method_60_code 7 = .ok (.getfield 196, 3) := by decide +kernel
theorem eM_wantNumber_10 : decode prog_6_method_60_code 10 = .ok (.ifCond .eq 24, 3) := by decide +kernel
theorem eM_wantNumber_13 : decode prog_6_method_60_code 13 = .ok (.aload_n 0, 1) := by decide +kernel
theorem eM_wantNumber_14 : decode prog_6_method_60_code 14 = .ok (.getfield 164, 3) := by decide +kernel
theorem eM_wantNumber_17 : decode prog_6_method_60_code 17 = .ok (.iconst 2, 1) := by decide +kernel
theorem eM_wantNumber_18 : decode prog_6_method_60_code 18 = .ok (.if_icmp .ne 16, 3) := by decide +kernel
theorem eM_wantNumber_21 : decode prog_6_method_60_code 21 = .ok (.iload_n 3, 1) := by decide +kernel
theorem eM_wantNumber_22 : decode prog_6_method_60_code 22 = .ok (.iload_n 1, 1) := by decide +kernel
theorem eM_wantNumber_23 : decode prog_6_method_60_code 23 = .ok (.iload_n 2, 1) := by decide +kernel
theorem eM_wantNumber_24 : decode prog_6_method_60_code 24 = .ok (.invokestatic 42, 3) := by decide +kernel
theorem eM_wantNumber_27 : decode prog_6_method_60_code 27 = .ok (.ifCond .eq 7, 3) := by decide +kernel
theorem eM_wantNumber_30 : decode prog_6_method_60_code 30 = .ok (.iconst 1, 1) := by decide +kernel
theorem eM_wantNumber_31 : decode prog_6_method_60_code 31 = .ok (.goto 4, 3) := by decide +kernel
theorem eM_wantNumber_34 : decode prog_6_method_60_code 34 = .ok (.iconst 0, 1) := by decide +kernel
theorem eM_wantNumber_35 : decode prog_6_method_60_code 35 = .ok (.putfield 196, 3) := by decide +kernel
theorem eM_wantNumber_38 : decode prog_6_method_60_code 38 = .ok (.aload_n 0, 1) := by decide +kernel
theorem eM_wantNumber_39 : decode prog_6_method_60_code 39 = .ok (.getfield 196, 3) := by decide +kernel
theorem eM_wantNumber_42 : decode prog_6_method_60_code 42 = .ok (.ifCond .eq 7, 3) := by decide +kernel
theorem eM_wantNumber_45 : decode prog_6_method_60_code 45 = .ok (.aload_n 0, 1) := by decide +kernel
theorem eM_wantNumber_46 : decode prog_6_method_60_code 46 = .ok (.invokevirtual 200, 3) := by decide +kernel
theorem eM_wantNumber_49 : decode prog_6_method_60_code 49 = .ok (.iload_n 3, 1) := by decide +kernel
theorem eM_wantNumber_50 : decode prog_6_method_60_code 50 = .ok (.ireturn, 1) := by decide +kernel
theorem eM_wantWall_0 : decode prog_6_method_62_code 0 = .ok (.aload_n 0, 1) := by decide +kernel
theorem eM_wantWall_1 : decode prog_6_method_62_code 1 = .ok (.aload_n 0, 1) := by decide +kernel
theorem eM_wantWall_2 : decode prog_6_method_62_code 2 = .ok (.getfield 7, 3) := by decide +kernel
theorem eM_wantWall_5 : decode prog_6_method_62_code 5 = .ok (.iconst 5, 1) := by decide +kernel
theorem eM_wantWall_6 : decode prog_6_method_62_code 6 = .ok (.iaload, 1) := by decide +kernel
theorem eM_wantWall_7 : decode prog_6_method_62_code 7 = .ok (.bipush 10, 2) := by decide +kernel
theorem eM_wantWall_9 : decode prog_6_method_62_code 9 = .ok (.if_icmp .ge 7, 3) := by decide +kernel
theorem eM_wantWall_12 : decode prog_6_method_62_code 12 = .ok (.iconst 1, 1) := by decide +kernel
theorem eM_wantWall_13 : decode prog_6_method_62_code 13 = .ok (.goto 4, 3) := by decide +kernel
theorem eM_wantWall_16 : decode prog_6_method_62_code 16 = .ok (.iconst 0, 1) := by decide +kernel
theorem eM_wantWall_17 : decode prog_6_method_62_code 17 = .ok (.putfield 196, 3) := by decide +kernel
theorem eM_wantWall_20 : decode prog_6_method_62_code 20 = .ok (.aload_n 0, 1) := by decide +kernel
theorem eM_wantWall_21 : decode prog_6_method_62_code 21 = .ok (.getfield 196, 3) := by decide +kernel
theorem eM_wantWall_24 : decode prog_6_method_62_code 24 = .ok (.ifCond .ne 4, 3) := by decide +kernel
theorem eM_wantWall_27 : decode prog_6_method_62_code 27 = .ok (.return_, 1) := by decide +kernel
theorem eM_wantWall_28 : decode prog_6_method_62_code 28 = .ok (.aload_n 0, 1) := by decide +kernel
theorem eM_wantWall_29 : decode prog_6_method_62_code 29 = .ok (.invokevirtual 200, 3) := by decide +kernel
theorem eM_wantWall_32 : decode prog_6_method_62_code 32 = .ok (.aload_n 0, 1) := by decide +kernel
theorem eM_wantWall_33 : decode prog_6_method_62_code 33 = .ok (.aload_n 0, 1) := by decide +kernel
theorem eM_wantWall_34 : decode prog_6_method_62_code 34 = .ok (.ldc2_w 206, 3) := by decide +kernel
theorem eM_wantWall_37 : decode prog_6_method_62_code 37 = .ok (.invokevirtual 182, 3) := by decide +kernel
theorem eM_wantWall_40 : decode prog_6_method_62_code 40 = .ok (.putfield 196, 3) := by decide +kernel
theorem eM_wantWall_43 : decode prog_6_method_62_code 43 = .ok (.aload_n 0, 1) := by decide +kernel
theorem eM_wantWall_44 : decode prog_6_method_62_code 44 = .ok (.getfield 196, 3) := by decide +kernel
theorem eM_wantWall_47 : decode prog_6_method_62_code 47 = .ok (.ifCond .ne 4, 3) := by decide +kernel
theorem eM_wantWall_50 : decode prog_6_method_62_code 50 = .ok (.return_, 1) := by decide +kernel
theorem eM_wantWall_51 : decode prog_6_method_62_code 51 = .ok (.aload_n 0, 1) := by decide +kernel
theorem eM_wantWall_52 : decode prog_6_method_62_code 52 = .ok (.invokevirtual 200, 3) := by decide +kernel
theorem eM_wantWall_55 : decode prog_6_method_62_code 55 = .ok (.aload_n 0, 1) := by decide +kernel
theorem eM_wantWall_56 : decode prog_6_method_62_code 56 = .ok (.iconst 0, 1) := by decide +kernel
theorem eM_wantWall_57 : decode prog_6_method_62_code 57 = .ok (.bipush 9, 2) := by decide +kernel
theorem eM_wantWall_59 : decode prog_6_method_62_code 59 = .ok (.invokevirtual 203, 3) := by decide +kernel
theorem eM_wantWall_62 : decode prog_6_method_62_code 62 = .ok (.istore_n 2, 1) := by decide +kernel
theorem eM_wantWall_63 : decode prog_6_method_62_code 63 = .ok (.aload_n 0, 1) := by decide +kernel
theorem eM_wantWall_64 : decode prog_6_method_62_code 64 = .ok (.ldc2_w 208, 3) := by decide +kernel
theorem eM_wantWall_67 : decode prog_6_method_62_code 67 = .ok (.iconst 0, 1) := by decide +kernel
theorem eM_wantWall_68 : decode prog_6_method_62_code 68 = .ok (.bipush 9, 2) := by decide +kernel
theorem eM_wantWall_70 : decode prog_6_method_62_code 70 = .ok (.iload_n 2, 1) := by decide +kernel
theorem eM_wantWall_71 : decode prog_6_method_62_code 71 = .ok (.invokevirtual 210, 3) := by decide +kernel
theorem eM_wantWall_74 : decode prog_6_method_62_code 74 = .ok (.istore_n 3, 1) := by decide +kernel
theorem eM_wantWall_75 : decode prog_6_method_62_code 75 = .ok (.aload_n 0, 1) := by decide +kernel
theorem eM_wantWall_76 : decode prog_6_method_62_code 76 = .ok (.ldc2_w 214, 3) := by decide +kernel
theorem eM_wantWall_79 : decode prog_6_method_62_code 79 = .ok (.iconst 0, 1) := by decide +kernel
theorem eM_wantWall_80 : decode prog_6_method_62_code 80 = .ok (.iconst 3, 1) := by decide +kernel
theorem eM_wantWall_81 : decode prog_6_method_62_code 81 = .ok (.iconst 0, 1) := by decide +kernel
theorem eM_wantWall_82 : decode prog_6_method_62_code 82 = .ok (.invokevirtual 210, 3) := by decide +kernel
theorem eM_wantWall_85 : decode prog_6_method_62_code 85 = .ok (.istore 4, 2) := by decide +kernel
theorem eM_wantWall_87 : decode prog_6_method_62_code 87 = .ok (.aload_n 0, 1) := by decide +kernel
theorem eM_wantWall_88 : decode prog_6_method_62_code 88 = .ok (.getfield 196, 3) := by decide +kernel
theorem eM_wantWall_91 : decode prog_6_method_62_code 91 = .ok (.ifCond .eq 12, 3) := by decide +kernel
theorem eM_wantWall_94 : decode prog_6_method_62_code 94 = .ok (.aload_n 0, 1) := by decide +kernel
theorem eM_wantWall_95 : decode prog_6_method_62_code 95 = .ok (.iload_n 1, 1) := by decide +kernel
theorem eM_wantWall_96 : decode prog_6_method_62_code 96 = .ok (.iload_n 2, 1) := by decide +kernel
theorem eM_wantWall_97 : decode prog_6_method_62_code 97 = .ok (.iload_n 3, 1) := by decide +kernel
theorem eM_wantWall_98 : decode prog_6_method_62_code 98 = .ok (.iload 4, 2) := by decide +kernel
theorem eM_wantWall_100 : decode prog_6_method_62_code 100 = .ok (.invokevirtual 73, 3) := by decide +kernel
theorem eM_wantWall_103 : decode prog_6_method_62_code 103 = .ok (.return_, 1) := by decide +kernel
theorem eM_mayWant_0 : decode prog_6_method_61_code 0 = .ok (.aload_n 0, 1) := by decide +kernel
theorem eM_mayWant_1 : decode prog_6_method_61_code 1 = .ok (.getfield 196, 3) := by decide +kernel
theorem eM_mayWant_4 : decode prog_6_method_61_code 4 = .ok (.ifCond .eq 11, 3) := by decide +kernel
theorem eM_mayWant_7 : decode prog_6_method_61_code 7 = .ok (.aload_n 0, 1) := by decide +kernel
theorem eM_mayWant_8 : decode prog_6_method_61_code 8 = .ok (.lload_n 1, 1) := by decide +kernel
theorem eM_mayWant_9 : decode prog_6_method_61_code 9 = .ok (.invokevirtual 182, 3) := by decide +kernel
theorem eM_mayWant_12 : decode prog_6_method_61_code 12 = .ok (.ifCond .ne 6, 3) := by decide +kernel
theorem eM_mayWant_15 : decode prog_6_method_61_code 15 = .ok (.iload 5, 2) := by decide +kernel
theorem eM_mayWant_17 : decode prog_6_method_61_code 17 = .ok (.ireturn, 1) := by decide +kernel
theorem eM_mayWant_18 : decode prog_6_method_61_code 18 = .ok (.aload_n 0, 1) := by decide +kernel
theorem eM_mayWant_19 : decode prog_6_method_61_code 19 = .ok (.invokevirtual 200, 3) := by decide +kernel
theorem eM_mayWant_22 : decode prog_6_method_61_code 22 = .ok (.aload_n 0, 1) := by decide +kernel
theorem eM_mayWant_23 : decode prog_6_method_61_code 23 = .ok (.iload_n 3, 1) := by decide +kernel
theorem eM_mayWant_24 : decode prog_6_method_61_code 24 = .ok (.iload 4, 2) := by decide +kernel
theorem eM_mayWant_26 : decode prog_6_method_61_code 26 = .ok (.invokevirtual 203, 3) := by decide +kernel
theorem eM_mayWant_29 : decode prog_6_method_61_code 29 = .ok (.ireturn, 1) := by decide +kernel
theorem eM_sheet_0 : decode prog_6_method_68_code 0 = .ok (.iload_n 1, 1) := by decide +kernel
theorem eM_sheet_1 : decode prog_6_method_68_code 1 = .ok (.invokestatic 235, 3) := by decide +kernel
theorem eM_sheet_4 : decode prog_6_method_68_code 4 = .ok (.ifCond .eq 25, 3) := by decide +kernel
theorem eM_sheet_7 : decode prog_6_method_68_code 7 = .ok (.iload_n 2, 1) := by decide +kernel
theorem eM_sheet_8 : decode prog_6_method_68_code 8 = .ok (.ifCond .eq 28, 3) := by decide +kernel
theorem eM_sheet_11 : decode prog_6_method_68_code 11 = .ok (.iload_n 2, 1) := by decide +kernel
theorem eM_sheet_12 : decode prog_6_method_68_code 12 = .ok (.bipush 8, 2) := by decide +kernel
theorem eM_sheet_14 : decode prog_6_method_68_code 14 = .ok (.if_icmp .eq 22, 3) := by decide +kernel
theorem eM_sheet_17 : decode prog_6_method_68_code 17 = .ok (.iload_n 2, 1) := by decide +kernel
theorem eM_sheet_18 : decode prog_6_method_68_code 18 = .ok (.bipush 16, 2) := by decide +kernel
theorem eM_sheet_20 : decode prog_6_method_68_code 20 = .ok (.if_icmp .eq 16, 3) := by decide +kernel
theorem eM_sheet_23 : decode prog_6_method_68_code 23 = .ok (.iload_n 2, 1) := by decide +kernel
theorem eM_sheet_24 : decode prog_6_method_68_code 24 = .ok (.bipush 64, 2) := by decide +kernel
theorem eM_sheet_26 : decode prog_6_method_68_code 26 = .ok (.if_icmp .eq 10, 3) := by decide +kernel
theorem eM_sheet_29 : decode prog_6_method_68_code 29 = .ok (.aload_n 0, 1) := by decide +kernel
theorem eM_sheet_30 : decode prog_6_method_68_code 30 = .ok (.ldc 41, 2) := by decide +kernel
theorem eM_sheet_32 : decode prog_6_method_68_code 32 = .ok (.invokevirtual 57, 3) := by decide +kernel
theorem eM_sheet_35 : decode prog_6_method_68_code 35 = .ok (.ireturn, 1) := by decide +kernel
theorem eM_sheet_36 : decode prog_6_method_68_code 36 = .ok (.iload_n 3, 1) := by decide +kernel
theorem eM_sheet_37 : decode prog_6_method_68_code 37 = .ok (.ifCond .ge 10, 3) := by decide +kernel
theorem eM_sheet_40 : decode prog_6_method_68_code 40 = .ok (.aload_n 0, 1) := by decide +kernel
theorem eM_sheet_41 : decode prog_6_method_68_code 41 = .ok (.ldc 238, 2) := by decide +kernel
theorem eM_sheet_43 : decode prog_6_method_68_code 43 = .ok (.invokevirtual 57, 3) := by decide +kernel
theorem eM_sheet_46 : decode prog_6_method_68_code 46 = .ok (.ireturn, 1) := by decide +kernel
theorem eM_sheet_47 : decode prog_6_method_68_code 47 = .ok (.iload_n 3, 1) := by decide +kernel
theorem eM_sheet_48 : decode prog_6_method_68_code 48 = .ok (.bipush 40, 2) := by decide +kernel
theorem eM_sheet_50 : decode prog_6_method_68_code 50 = .ok (.if_icmp .le 10, 3) := by decide +kernel
theorem eM_sheet_53 : decode prog_6_method_68_code 53 = .ok (.aload_n 0, 1) := by decide +kernel
theorem eM_sheet_54 : decode prog_6_method_68_code 54 = .ok (.ldc 41, 2) := by decide +kernel
theorem eM_sheet_56 : decode prog_6_method_68_code 56 = .ok (.invokevirtual 57, 3) := by decide +kernel
theorem eM_sheet_59 : decode prog_6_method_68_code 59 = .ok (.ireturn, 1) := by decide +kernel
theorem eM_sheet_60 : decode prog_6_method_68_code 60 = .ok (.aload_n 0, 1) := by decide +kernel
theorem eM_sheet_61 : decode prog_6_method_68_code 61 = .ok (.getfield 22, 3) := by decide +kernel
theorem eM_sheet_64 : decode prog_6_method_68_code 64 = .ok (.iload_n 1, 1) := by decide +kernel
theorem eM_sheet_65 : decode prog_6_method_68_code 65 = .ok (.iload_n 2, 1) := by decide +kernel
theorem eM_sheet_66 : decode prog_6_method_68_code 66 = .ok (.iastore, 1) := by decide +kernel
theorem eM_sheet_67 : decode prog_6_method_68_code 67 = .ok (.aload_n 0, 1) := by decide +kernel
theorem eM_sheet_68 : decode prog_6_method_68_code 68 = .ok (.getfield 25, 3) := by decide +kernel
theorem eM_sheet_71 : decode prog_6_method_68_code 71 = .ok (.iload_n 1, 1) := by decide +kernel
theorem eM_sheet_72 : decode prog_6_method_68_code 72 = .ok (.iload_n 2, 1) := by decide +kernel
theorem eM_sheet_73 : decode prog_6_method_68_code 73 = .ok (.ifCond .ne 7, 3) := by decide +kernel
theorem eM_sheet_76 : decode prog_6_method_68_code 76 = .ok (.iconst 0, 1) := by decide +kernel
theorem eM_sheet_77 : decode prog_6_method_68_code 77 = .ok (.goto 4, 3) := by decide +kernel
theorem eM_sheet_80 : decode prog_6_method_68_code 80 = .ok (.iload_n 3, 1) := by decide +kernel
theorem eM_sheet_81 : decode prog_6_method_68_code 81 = .ok (.iastore, 1) := by decide +kernel
theorem eM_sheet_82 : decode prog_6_method_68_code 82 = .ok (.iconst 0, 1) := by decide +kernel
theorem eM_sheet_83 : decode prog_6_method_68_code 83 = .ok (.istore 4, 2) := by decide +kernel
theorem eM_sheet_85 : decode prog_6_method_68_code 85 = .ok (.iload 4, 2) := by decide +kernel
theorem eM_sheet_87 : decode prog_6_method_68_code 87 = .ok (.bipush 40, 2) := by decide +kernel
theorem eM_sheet_89 : decode prog_6_method_68_code 89 = .ok (.if_icmp .ge 22, 3) := by decide +kernel
theorem eM_sheet_92 : decode prog_6_method_68_code 92 = .ok (.aload_n 0, 1) := by decide +kernel
theorem eM_sheet_93 : decode prog_6_method_68_code 93 = .ok (.getfield 28, 3) := by decide +kernel
theorem eM_sheet_96 : decode prog_6_method_68_code 96 = .ok (.bipush 40, 2) := by decide +kernel
theorem eM_sheet_98 : decode prog_6_method_68_code 98 = .ok (.iload_n 1, 1) := by decide +kernel
theorem eM_sheet_99 : decode prog_6_method_68_code 99 = .ok (.imul, 1) := by decide +kernel
theorem eM_sheet_100 : decode prog_6_method_68_code 100 = .ok (.iload 4, 2) := by decide +kernel
theorem eM_sheet_102 : decode prog_6_method_68_code 102 = .ok (.iadd, 1) := by decide +kernel
theorem eM_sheet_103 : decode prog_6_method_68_code 103 = .ok (.lconst 0, 1) := by decide +kernel
theorem eM_sheet_104 : decode prog_6_method_68_code 104 = .ok (.lastore, 1) := by decide +kernel
theorem eM_sheet_105 : decode prog_6_method_68_code 105 = .ok (.iinc 4 1, 3) := by decide +kernel
theorem eM_sheet_108 : decode prog_6_method_68_code 108 = .ok (.goto (-23), 3) := by decide +kernel
theorem eM_sheet_111 : decode prog_6_method_68_code 111 = .ok (.aload_n 0, 1) := by decide +kernel
theorem eM_sheet_112 : decode prog_6_method_68_code 112 = .ok (.getfield 25, 3) := by decide +kernel
theorem eM_sheet_115 : decode prog_6_method_68_code 115 = .ok (.iload_n 1, 1) := by decide +kernel
theorem eM_sheet_116 : decode prog_6_method_68_code 116 = .ok (.iaload, 1) := by decide +kernel
theorem eM_sheet_117 : decode prog_6_method_68_code 117 = .ok (.ireturn, 1) := by decide +kernel
theorem eM_isSheet_0 : decode prog_6_method_66_code 0 = .ok (.iload_n 0, 1) := by decide +kernel
theorem eM_isSheet_1 : decode prog_6_method_66_code 1 = .ok (.iconst 0, 1) := by decide +kernel
theorem eM_isSheet_2 : decode prog_6_method_66_code 2 = .ok (.iconst 3, 1) := by decide +kernel
theorem eM_isSheet_3 : decode prog_6_method_66_code 3 = .ok (.invokestatic 42, 3) := by decide +kernel
theorem eM_isSheet_6 : decode prog_6_method_66_code 6 = .ok (.ireturn, 1) := by decide +kernel
theorem eM_write_0 : decode prog_6_method_69_code 0 = .ok (.iload_n 1, 1) := by decide +kernel
theorem eM_write_1 : decode prog_6_method_69_code 1 = .ok (.invokestatic 235, 3) := by decide +kernel
theorem eM_write_4 : decode prog_6_method_69_code 4 = .ok (.ifCond .ne 11, 3) := by decide +kernel
theorem eM_write_7 : decode prog_6_method_69_code 7 = .ok (.aload_n 0, 1) := by decide +kernel
theorem eM_write_8 : decode prog_6_method_69_code 8 = .ok (.ldc 41, 2) := by decide +kernel
theorem eM_write_10 : decode prog_6_method_69_code 10 = .ok (.invokevirtual 57, 3) := by decide +kernel
theorem eM_write_13 : decode prog_6_method_69_code 13 = .ok (.i2l, 1) := by decide +kernel
theorem eM_write_14 : decode prog_6_method_69_code 14 = .ok (.lreturn, 1) := by decide +kernel
theorem eM_write_15 : decode prog_6_method_69_code 15 = .ok (.aload_n 0, 1) := by decide +kernel
theorem eM_write_16 : decode prog_6_method_69_code 16 = .ok (.getfield 22, 3) := by decide +kernel
theorem eM_write_19 : decode prog_6_method_69_code 19 = .ok (.iload_n 1, 1) := by decide +kernel
theorem eM_write_20 : decode prog_6_method_69_code 20 = .ok (.iaload, 1) := by decide +kernel
theorem eM_write_21 : decode prog_6_method_69_code 21 = .ok (.ifCond .ne 11, 3) := by decide +kernel
theorem eM_write_24 : decode prog_6_method_69_code 24 = .ok (.aload_n 0, 1) := by decide +kernel
theorem eM_write_25 : decode prog_6_method_69_code 25 = .ok (.ldc 239, 2) := by decide +kernel
theorem eM_write_27 : decode prog_6_method_69_code 27 = .ok (.invokevirtual 57, 3) := by decide +kernel
theorem eM_write_30 : decode prog_6_method_69_code 30 = .ok (.i2l, 1) := by decide +kernel
theorem eM_write_31 : decode prog_6_method_69_code 31 = .ok (.lreturn, 1) := by decide +kernel
theorem eM_write_32 : decode prog_6_method_69_code 32 = .ok (.iload_n 2, 1) := by decide +kernel
theorem eM_write_33 : decode prog_6_method_69_code 33 = .ok (.iconst 0, 1) := by decide +kernel
theorem eM_write_34 : decode prog_6_method_69_code 34 = .ok (.aload_n 0, 1) := by decide +kernel
theorem eM_write_35 : decode prog_6_method_69_code 35 = .ok (.getfield 25, 3) := by decide +kernel
theorem eM_write_38 : decode prog_6_method_69_code 38 = .ok (.iload_n 1, 1) := by decide +kernel
theorem eM_write_39 : decode prog_6_method_69_code 39 = .ok (.iaload, 1) := by decide +kernel
theorem eM_write_40 : decode prog_6_method_69_code 40 = .ok (.iconst 1, 1) := by decide +kernel
theorem eM_write_41 : decode prog_6_method_69_code 41 = .ok (.isub, 1) := by decide +kernel
theorem eM_write_42 : decode prog_6_method_69_code 42 = .ok (.invokestatic 42, 3) := by decide +kernel
theorem eM_write_45 : decode prog_6_method_69_code 45 = .ok (.ifCond .ne 11, 3) := by decide +kernel
theorem eM_write_48 : decode prog_6_method_69_code 48 = .ok (.aload_n 0, 1) := by decide +kernel
theorem eM_write_49 : decode prog_6_method_69_code 49 = .ok (.ldc 41, 2) := by decide +kernel
theorem eM_write_51 : decode prog_6_method_69_code 51 = .ok (.invokevirtual 57, 3) := by decide +kernel
theorem eM_write_54 : decode prog_6_method_69_code 54 = .ok (.i2l, 1) := by decide +kernel
theorem eM_write_55 : decode prog_6_method_69_code 55 = .ok (.lreturn, 1) := by decide +kernel
theorem eM_write_56 : decode prog_6_method_69_code 56 = .ok (.aload_n 0, 1) := by decide +kernel
theorem eM_write_57 : decode prog_6_method_69_code 57 = .ok (.getfield 28, 3) := by decide +kernel
theorem eM_write_60 : decode prog_6_method_69_code 60 = .ok (.bipush 40, 2) := by decide +kernel
theorem eM_write_62 : decode prog_6_method_69_code 62 = .ok (.iload_n 1, 1) := by decide +kernel
theorem eM_write_63 : decode prog_6_method_69_code 63 = .ok (.imul, 1) := by decide +kernel
theorem eM_write_64 : decode prog_6_method_69_code 64 = .ok (.iload_n 2, 1) := by decide +kernel
theorem eM_write_65 : decode prog_6_method_69_code 65 = .ok (.iadd, 1) := by decide +kernel
theorem eM_write_66 : decode prog_6_method_69_code 66 = .ok (.laload, 1) := by decide +kernel
theorem eM_write_67 : decode prog_6_method_69_code 67 = .ok (.lstore 5, 2) := by decide +kernel
theorem eM_write_69 : decode prog_6_method_69_code 69 = .ok (.aload_n 0, 1) := by decide +kernel
theorem eM_write_70 : decode prog_6_method_69_code 70 = .ok (.getfield 28, 3) := by decide +kernel
theorem eM_write_73 : decode prog_6_method_69_code 73 = .ok (.bipush 40, 2) := by decide +kernel
theorem eM_write_75 : decode prog_6_method_69_code 75 = .ok (.iload_n 1, 1) := by decide +kernel
theorem eM_write_76 : decode prog_6_method_69_code 76 = .ok (.imul, 1) := by decide +kernel
theorem eM_write_77 : decode prog_6_method_69_code 77 = .ok (.iload_n 2, 1) := by decide +kernel
theorem eM_write_78 : decode prog_6_method_69_code 78 = .ok (.iadd, 1) := by decide +kernel
theorem eM_write_79 : decode prog_6_method_69_code 79 = .ok (.aload_n 0, 1) := by decide +kernel
theorem eM_write_80 : decode prog_6_method_69_code 80 = .ok (.getfield 22, 3) := by decide +kernel
theorem eM_write_83 : decode prog_6_method_69_code 83 = .ok (.iload_n 1, 1) := by decide +kernel
theorem eM_write_84 : decode prog_6_method_69_code 84 = .ok (.iaload, 1) := by decide +kernel
theorem eM_write_85 : decode prog_6_method_69_code 85 = .ok (.lload_n 3, 1) := by decide +kernel
theorem eM_write_86 : decode prog_6_method_69_code 86 = .ok (.invokestatic 240, 3) := by decide +kernel
theorem eM_write_89 : decode prog_6_method_69_code 89 = .ok (.lastore, 1) := by decide +kernel
theorem eM_write_90 : decode prog_6_method_69_code 90 = .ok (.lload 5, 2) := by decide +kernel
theorem eM_write_92 : decode prog_6_method_69_code 92 = .ok (.lreturn, 1) := by decide +kernel
theorem eM_narrow_0 : decode prog_6_method_67_code 0 = .ok (.iload_n 0, 1) := by decide +kernel
theorem eM_narrow_1 : decode prog_6_method_67_code 1 = .ok (.bipush 8, 2) := by decide +kernel
theorem eM_narrow_3 : decode prog_6_method_67_code 3 = .ok (.if_icmp .ne 13, 3) := by decide +kernel
theorem eM_narrow_6 : decode prog_6_method_67_code 6 = .ok (.lload_n 1, 1) := by decide +kernel
theorem eM_narrow_7 : decode prog_6_method_67_code 7 = .ok (.bipush 56, 2) := by decide +kernel
theorem eM_narrow_9 : decode prog_6_method_67_code 9 = .ok (.lshl, 1) := by decide +kernel
theorem eM_narrow_10 : decode prog_6_method_67_code 10 = .ok (.bipush 56, 2) := by decide +kernel
theorem eM_narrow_12 : decode prog_6_method_67_code 12 = .ok (.lshr, 1) := by decide +kernel
theorem eM_narrow_13 : decode prog_6_method_67_code 13 = .ok (.goto 20, 3) := by decide +kernel
theorem eM_narrow_16 : decode prog_6_method_67_code 16 = .ok (.iload_n 0, 1) := by decide +kernel
theorem eM_narrow_17 : decode prog_6_method_67_code 17 = .ok (.bipush 16, 2) := by decide +kernel
theorem eM_narrow_19 : decode prog_6_method_67_code 19 = .ok (.if_icmp .ne 13, 3) := by decide +kernel
theorem eM_narrow_22 : decode prog_6_method_67_code 22 = .ok (.lload_n 1, 1) := by decide +kernel
theorem eM_narrow_23 : decode prog_6_method_67_code 23 = .ok (.bipush 48, 2) := by decide +kernel
theorem eM_narrow_25 : decode prog_6_method_67_code 25 = .ok (.lshl, 1) := by decide +kernel
theorem eM_narrow_26 : decode prog_6_method_67_code 26 = .ok (.bipush 48, 2) := by decide +kernel
theorem eM_narrow_28 : decode prog_6_method_67_code 28 = .ok (.lshr, 1) := by decide +kernel
theorem eM_narrow_29 : decode prog_6_method_67_code 29 = .ok (.goto 4, 3) := by decide +kernel
theorem eM_narrow_32 : decode prog_6_method_67_code 32 = .ok (.lload_n 1, 1) := by decide +kernel
theorem eM_narrow_33 : decode prog_6_method_67_code 33 = .ok (.lreturn, 1) := by decide +kernel
theorem eM_copy_0 : decode prog_6_method_71_code 0 = .ok (.iload_n 1, 1) := by decide +kernel
theorem eM_copy_1 : decode prog_6_method_71_code 1 = .ok (.invokestatic 235, 3) := by decide +kernel
theorem eM_copy_4 : decode prog_6_method_71_code 4 = .ok (.ifCond .eq 10, 3) := by decide +kernel
theorem eM_copy_7 : decode prog_6_method_71_code 7 = .ok (.iload_n 3, 1) := by decide +kernel
theorem eM_copy_8 : decode prog_6_method_71_code 8 = .ok (.invokestatic 235, 3) := by decide +kernel
theorem eM_copy_11 : decode prog_6_method_71_code 11 = .ok (.ifCond .ne 10, 3) := by decide +kernel
theorem eM_copy_14 : decode prog_6_method_71_code 14 = .ok (.aload_n 0, 1) := by decide +kernel
theorem eM_copy_15 : decode prog_6_method_71_code 15 = .ok (.ldc 41, 2) := by decide +kernel
theorem eM_copy_17 : decode prog_6_method_71_code 17 = .ok (.invokevirtual 57, 3) := by decide +kernel
theorem eM_copy_20 : decode prog_6_method_71_code 20 = .ok (.ireturn, 1) := by decide +kernel
theorem eM_copy_21 : decode prog_6_method_71_code 21 = .ok (.aload_n 0, 1) := by decide +kernel
theorem eM_copy_22 : decode prog_6_method_71_code 22 = .ok (.getfield 22, 3) := by decide +kernel
theorem eM_copy_25 : decode prog_6_method_71_code 25 = .ok (.iload_n 1, 1) := by decide +kernel
theorem eM_copy_26 : decode prog_6_method_71_code 26 = .ok (.iaload, 1) := by decide +kernel
theorem eM_copy_27 : decode prog_6_method_71_code 27 = .ok (.ifCond .eq 12, 3) := by decide +kernel
theorem eM_copy_30 : decode prog_6_method_71_code 30 = .ok (.aload_n 0, 1) := by decide +kernel
theorem eM_copy_31 : decode prog_6_method_71_code 31 = .ok (.getfield 22, 3) := by decide +kernel
theorem eM_copy_34 : decode prog_6_method_71_code 34 = .ok (.iload_n 3, 1) := by decide +kernel
theorem eM_copy_35 : decode prog_6_method_71_code 35 = .ok (.iaload, 1) := by decide +kernel
theorem eM_copy_36 : decode prog_6_method_71_code 36 = .ok (.ifCond .ne 10, 3) := by decide +kernel
theorem eM_copy_39 : decode prog_6_method_71_code 39 = .ok (.aload_n 0, 1) := by decide +kernel
theorem eM_copy_40 : decode prog_6_method_71_code 40 = .ok (.ldc 239, 2) := by decide +kernel
theorem eM_copy_42 : decode prog_6_method_71_code 42 = .ok (.invokevirtual 57, 3) := by decide +kernel
theorem eM_copy_45 : decode prog_6_method_71_code 45 = .ok (.ireturn, 1) := by decide +kernel
theorem eM_copy_46 : decode prog_6_method_71_code 46 = .ok (.aload_n 0, 1) := by decide +kernel
theorem eM_copy_47 : decode prog_6_method_71_code 47 = .ok (.getfield 22, 3) := by decide +kernel
theorem eM_copy_50 : decode prog_6_method_71_code 50 = .ok (.iload_n 1, 1) := by decide +kernel
theorem eM_copy_51 : decode prog_6_method_71_code 51 = .ok (.iaload, 1) := by decide +kernel
theorem eM_copy_52 : decode prog_6_method_71_code 52 = .ok (.aload_n 0, 1) := by decide +kernel
theorem eM_copy_53 : decode prog_6_method_71_code 53 = .ok (.getfield 22, 3) := by decide +kernel
theorem eM_copy_56 : decode prog_6_method_71_code 56 = .ok (.iload_n 3, 1) := by decide +kernel
theorem eM_copy_57 : decode prog_6_method_71_code 57 = .ok (.iaload, 1) := by decide +kernel
theorem eM_copy_58 : decode prog_6_method_71_code 58 = .ok (.if_icmp .eq 10, 3) := by decide +kernel
theorem eM_copy_61 : decode prog_6_method_71_code 61 = .ok (.aload_n 0, 1) := by decide +kernel
theorem eM_copy_62 : decode prog_6_method_71_code 62 = .ok (.ldc 90, 2) := by decide +kernel
theorem eM_copy_64 : decode prog_6_method_71_code 64 = .ok (.invokevirtual 57, 3) := by decide +kernel
theorem eM_copy_67 : decode prog_6_method_71_code 67 = .ok (.ireturn, 1) := by decide +kernel
theorem eM_copy_68 : decode prog_6_method_71_code 68 = .ok (.aload_n 0, 1) := by decide +kernel
theorem eM_copy_69 : decode prog_6_method_71_code 69 = .ok (.iload_n 1, 1) := by decide +kernel
theorem eM_copy_70 : decode prog_6_method_71_code 70 = .ok (.iload_n 2, 1) := by decide +kernel
theorem eM_copy_71 : decode prog_6_method_71_code 71 = .ok (.iload 5, 2) := by decide +kernel
theorem eM_copy_73 : decode prog_6_method_71_code 73 = .ok (.invokevirtual 244, 3) := by decide +kernel
theorem eM_copy_76 : decode prog_6_method_71_code 76 = .ok (.ifCond .eq 15, 3) := by decide +kernel
theorem eM_copy_79 : decode prog_6_method_71_code 79 = .ok (.aload_n 0, 1) := by decide +kernel
theorem eM_copy_80 : decode prog_6_method_71_code 80 = .ok (.iload_n 3, 1) := by decide +kernel
theorem eM_copy_81 : decode prog_6_method_71_code 81 = .ok (.iload 4, 2) := by decide +kernel
theorem eM_copy_83 : decode prog_6_method_71_code 83 = .ok (.iload 5, 2) := by decide +kernel
theorem eM_copy_85 : decode prog_6_method_71_code 85 = .ok (.invokevirtual 244, 3) := by decide +kernel
theorem eM_copy_88 : decode prog_6_method_71_code 88 = .ok (.ifCond .ne 10, 3) := by decide +kernel
theorem eM_copy_91 : decode prog_6_method_71_code 91 = .ok (.aload_n 0, 1) := by decide +kernel
theorem eM_copy_92 : decode prog_6_method_71_code 92 = .ok (.ldc 41, 2) := by decide +kernel
theorem eM_copy_94 : decode prog_6_method_71_code 94 = .ok (.invokevirtual 57, 3) := by decide +kernel
theorem eM_copy_97 : decode prog_6_method_71_code 97 = .ok (.ireturn, 1) := by decide +kernel
theorem eM_copy_98 : decode prog_6_method_71_code 98 = .ok (.iconst 0, 1) := by decide +kernel
theorem eM_copy_99 : decode prog_6_method_71_code 99 = .ok (.istore 6, 2) := by decide +kernel
theorem eM_copy_101 : decode prog_6_method_71_code 101 = .ok (.iload 6, 2) := by decide +kernel
theorem eM_copy_103 : decode prog_6_method_71_code 103 = .ok (.iload 5, 2) := by decide +kernel
theorem eM_copy_105 : decode prog_6_method_71_code 105 = .ok (.if_icmp .ge 30, 3) := by decide +kernel
theorem eM_copy_108 : decode prog_6_method_71_code 108 = .ok (.aload_n 0, 1) := by decide +kernel
theorem eM_copy_109 : decode prog_6_method_71_code 109 = .ok (.getfield 32, 3) := by decide +kernel
theorem eM_copy_112 : decode prog_6_method_71_code 112 = .ok (.iload 6, 2) := by decide +kernel
theorem eM_copy_114 : decode prog_6_method_71_code 114 = .ok (.aload_n 0, 1) := by decide +kernel
theorem eM_copy_115 : decode prog_6_method_71_code 115 = .ok (.getfield 28, 3) := by decide +kernel
theorem eM_copy_118 : decode prog_6_method_71_code 118 = .ok (.bipush 40, 2) := by decide +kernel
theorem eM_copy_120 : decode prog_6_method_71_code 120 = .ok (.iload_n 1, 1) := by decide +kernel
theorem eM_copy_121 : decode prog_6_method_71_code 121 = .ok (.imul, 1) := by decide +kernel
theorem eM_copy_122 : decode prog_6_method_71_code 122 = .ok (.iload_n 2, 1) := by decide +kernel
theorem eM_copy_123 : decode prog_6_method_71_code 123 = .ok (.iadd, 1) := by decide +kernel
theorem eM_copy_124 : decode prog_6_method_71_code 124 = .ok (.iload 6, 2) := by decide +kernel
theorem eM_copy_126 : decode prog_6_method_71_code 126 = .ok (.iadd, 1) := by decide +kernel
theorem eM_copy_127 : decode prog_6_method_71_code 127 = .ok (.laload, 1) := by decide +kernel
theorem eM_copy_128 : decode prog_6_method_71_code 128 = .ok (.lastore, 1) := by decide +kernel
theorem eM_copy_129 : decode prog_6_method_71_code 129 = .ok (.iinc 6 1, 3) := by decide +kernel
theorem eM_copy_132 : decode prog_6_method_71_code 132 = .ok (.goto (-31), 3) := by decide +kernel
theorem eM_copy_135 : decode prog_6_method_71_code 135 = .ok (.iconst 0, 1) := by decide +kernel
theorem eM_copy_136 : decode prog_6_method_71_code 136 = .ok (.istore 6, 2) := by decide +kernel
theorem eM_copy_138 : decode prog_6_method_71_code 138 = .ok (.iload 6, 2) := by decide +kernel
theorem eM_copy_140 : decode prog_6_method_71_code 140 = .ok (.iload 5, 2) := by decide +kernel
theorem eM_copy_142 : decode prog_6_method_71_code 142 = .ok (.if_icmp .ge 31, 3) := by decide +kernel
theorem eM_copy_145 : decode prog_6_method_71_code 145 = .ok (.aload_n 0, 1) := by decide +kernel
theorem eM_copy_146 : decode prog_6_method_71_code 146 = .ok (.getfield 28, 3) := by decide +kernel
theorem eM_copy_149 : decode prog_6_method_71_code 149 = .ok (.bipush 40, 2) := by decide +kernel
theorem eM_copy_151 : decode prog_6_method_71_code 151 = .ok (.iload_n 3, 1) := by decide +kernel
theorem eM_copy_152 : decode prog_6_method_71_code 152 = .ok (.imul, 1) := by decide +kernel
theorem eM_copy_153 : decode prog_6_method_71_code 153 = .ok (.iload 4, 2) := by decide +kernel
theorem eM_copy_155 : decode prog_6_method_71_code 155 = .ok (.iadd, 1) := by decide +kernel
theorem eM_copy_156 : decode prog_6_method_71_code 156 = .ok (.iload 6, 2) := by decide +kernel
theorem eM_copy_158 : decode prog_6_method_71_code 158 = .ok (.iadd, 1) := by decide +kernel
theorem eM_copy_159 : decode prog_6_method_71_code 159 = .ok (.aload_n 0, 1) := by decide +kernel
theorem eM_copy_160 : decode prog_6_method_71_code 160 = .ok (.getfield 32, 3) := by decide +kernel
theorem eM_copy_163 : decode prog_6_method_71_code 163 = .ok (.iload 6, 2) := by decide +kernel
theorem eM_copy_165 : decode prog_6_method_71_code 165 = .ok (.laload, 1) := by decide +kernel
theorem eM_copy_166 : decode prog_6_method_71_code 166 = .ok (.lastore, 1) := by decide +kernel
theorem eM_copy_167 : decode prog_6_method_71_code 167 = .ok (.iinc 6 1, 3) := by decide +kernel
theorem eM_copy_170 : decode prog_6_method_71_code 170 = .ok (.goto (-32), 3) := by decide +kernel
theorem eM_copy_173 : decode prog_6_method_71_code 173 = .ok (.iload 5, 2) := by decide +kernel
theorem eM_copy_175 : decode prog_6_method_71_code 175 = .ok (.ireturn, 1) := by decide +kernel
theorem eM_isPart_0 : decode prog_6_method_70_code 0 = .ok (.iload_n 2, 1) := by decide +kernel
theorem eM_isPart_1 : decode prog_6_method_70_code 1 = .ok (.ifCond .lt 33, 3) := by decide +kernel
theorem eM_isPart_4 : decode prog_6_method_70_code 4 = .ok (.iload_n 3, 1) := by decide +kernel
theorem eM_isPart_5 : decode prog_6_method_70_code 5 = .ok (.ifCond .lt 29, 3) := by decide +kernel
theorem eM_isPart_8 : decode prog_6_method_70_code 8 = .ok (.iload_n 3, 1) := by decide +kernel
theorem eM_isPart_9 : decode prog_6_method_70_code 9 = .ok (.aload_n 0, 1) := by decide +kernel
theorem eM_isPart_10 : decode prog_6_method_70_code 10 = .ok (.getfield 25, 3) := by decide +kernel
theorem eM_isPart_13 : decode prog_6_method_70_code 13 = .ok (.iload_n 1, 1) := by decide +kernel
theorem eM_isPart_14 : decode prog_6_method_70_code 14 = .ok (.iaload, 1) := by decide +kernel
theorem eM_isPart_15 : decode prog_6_method_70_code 15 = .ok (.if_icmp .gt 19, 3) := by decide +kernel
theorem eM_isPart_18 : decode prog_6_method_70_code 18 = .ok (.iload_n 2, 1) := by decide +kernel
theorem eM_isPart_19 : decode prog_6_method_70_code 19 = .ok (.aload_n 0, 1) := by decide +kernel
theorem eM_isPart_20 : decode prog_6_method_70_code 20 = .ok (.getfield 25, 3) := by decide +kernel
theorem eM_isPart_23 : decode prog_6_method_70_code 23 = .ok (.iload_n 1, 1) := by decide +kernel
theorem eM_isPart_24 : decode prog_6_method_70_code 24 = .ok (.iaload, 1) := by decide +kernel
theorem eM_isPart_25 : decode prog_6_method_70_code 25 = .ok (.iload_n 3, 1) := by decide +kernel
theorem eM_isPart_26 : decode prog_6_method_70_code 26 = .ok (.isub, 1) := by decide +kernel
theorem eM_isPart_27 : decode prog_6_method_70_code 27 = .ok (.if_icmp .gt 7, 3) := by decide +kernel
theorem eM_isPart_30 : decode prog_6_method_70_code 30 = .ok (.iconst 1, 1) := by decide +kernel
theorem eM_isPart_31 : decode prog_6_method_70_code 31 = .ok (.goto 4, 3) := by decide +kernel
theorem eM_isPart_34 : decode prog_6_method_70_code 34 = .ok (.iconst 0, 1) := by decide +kernel
theorem eM_isPart_35 : decode prog_6_method_70_code 35 = .ok (.ireturn, 1) := by decide +kernel
theorem eM_lays_0 : decode prog_6_method_73_code 0 = .ok (.aload_n 0, 1) := by decide +kernel
theorem eM_lays_1 : decode prog_6_method_73_code 1 = .ok (.iload_n 1, 1) := by decide +kernel
theorem eM_lays_2 : decode prog_6_method_73_code 2 = .ok (.invokevirtual 247, 3) := by decide +kernel
theorem eM_lays_5 : decode prog_6_method_73_code 5 = .ok (.istore_n 2, 1) := by decide +kernel
theorem eM_lays_6 : decode prog_6_method_73_code 6 = .ok (.iload_n 2, 1) := by decide +kernel
theorem eM_lays_7 : decode prog_6_method_73_code 7 = .ok (.ifCond .eq 9, 3) := by decide +kernel
theorem eM_lays_10 : decode prog_6_method_73_code 10 = .ok (.aload_n 0, 1) := by decide +kernel
theorem eM_lays_11 : decode prog_6_method_73_code 11 = .ok (.iload_n 2, 1) := by decide +kernel
theorem eM_lays_12 : decode prog_6_method_73_code 12 = .ok (.invokevirtual 57, 3) := by decide +kernel
theorem eM_lays_15 : decode prog_6_method_73_code 15 = .ok (.ireturn, 1) := by decide +kernel
theorem eM_lays_16 : decode prog_6_method_73_code 16 = .ok (.iconst 0, 1) := by decide +kernel
theorem eM_lays_17 : decode prog_6_method_73_code 17 = .ok (.istore_n 3, 1) := by decide +kernel
theorem eM_lays_18 : decode prog_6_method_73_code 18 = .ok (.iconst 0, 1) := by decide +kernel
theorem eM_lays_19 : decode prog_6_method_73_code 19 = .ok (.istore 4, 2) := by decide +kernel
theorem eM_lays_21 : decode prog_6_method_73_code 21 = .ok (.iload 4, 2) := by decide +kernel
theorem eM_lays_23 : decode prog_6_method_73_code 23 = .ok (.aload_n 0, 1) := by decide +kernel
theorem eM_lays_24 : decode prog_6_method_73_code 24 = .ok (.getfield 25, 3) := by decide +kernel
theorem eM_lays_27 : decode prog_6_method_73_code 27 = .ok (.iload_n 1, 1) := by decide +kernel
theorem eM_lays_28 : decode prog_6_method_73_code 28 = .ok (.iaload, 1) := by decide +kernel
theorem eM_lays_29 : decode prog_6_method_73_code 29 = .ok (.if_icmp .ge 63, 3) := by decide +kernel
theorem eM_lays_32 : decode prog_6_method_73_code 32 = .ok (.iload 4, 2) := by decide +kernel
theorem eM_lays_34 : decode prog_6_method_73_code 34 = .ok (.aload_n 0, 1) := by decide +kernel
theorem eM_lays_35 : decode prog_6_method_73_code 35 = .ok (.getfield 7, 3) := by decide +kernel
theorem eM_lays_38 : decode prog_6_method_73_code 38 = .ok (.iconst 5, 1) := by decide +kernel
theorem eM_lays_39 : decode prog_6_method_73_code 39 = .ok (.iaload, 1) := by decide +kernel
theorem eM_lays_40 : decode prog_6_method_73_code 40 = .ok (.if_icmp .ge 52, 3) := by decide +kernel
theorem eM_lays_43 : decode prog_6_method_73_code 43 = .ok (.aload_n 0, 1) := by decide +kernel
theorem eM_lays_44 : decode prog_6_method_73_code 44 = .ok (.getfield 28, 3) := by decide +kernel
theorem eM_lays_47 : decode prog_6_method_73_code 47 = .ok (.bipush 40, 2) := by decide +kernel
theorem eM_lays_49 : decode prog_6_method_73_code 49 = .ok (.iload_n 1, 1) := by decide +kernel
theorem eM_lays_50 : decode prog_6_method_73_code 50 = .ok (.imul, 1) := by decide +kernel
theorem eM_lays_51 : decode prog_6_method_73_code 51 = .ok (.iload 4, 2) := by decide +kernel
theorem eM_lays_53 : decode prog_6_method_73_code 53 = .ok (.iadd, 1) := by decide +kernel
theorem eM_lays_54 : decode prog_6_method_73_code 54 = .ok (.laload, 1) := by decide +kernel
theorem eM_lays_55 : decode prog_6_method_73_code 55 = .ok (.lstore 5, 2) := by decide +kernel
theorem eM_lays_57 : decode prog_6_method_73_code 57 = .ok (.lload 5, 2) := by decide +kernel
theorem eM_lays_59 : decode prog_6_method_73_code 59 = .ok (.lconst 0, 1) := by decide +kernel
theorem eM_lays_60 : decode prog_6_method_73_code 60 = .ok (.lcmp, 1) := by decide +kernel
theorem eM_lays_61 : decode prog_6_method_73_code 61 = .ok (.ifCond .lt 25, 3) := by decide +kernel
theorem eM_lays_64 : decode prog_6_method_73_code 64 = .ok (.lload 5, 2) := by decide +kernel
theorem eM_lays_66 : decode prog_6_method_73_code 66 = .ok (.ldc2_w 250, 3) := by decide +kernel
theorem eM_lays_69 : decode prog_6_method_73_code 69 = .ok (.lcmp, 1) := by decide +kernel
theorem eM_lays_70 : decode prog_6_method_73_code 70 = .ok (.ifCond .gt 16, 3) := by decide +kernel
theorem eM_lays_73 : decode prog_6_method_73_code 73 = .ok (.aload_n 0, 1) := by decide +kernel
theorem eM_lays_74 : decode prog_6_method_73_code 74 = .ok (.iload 4, 2) := by decide +kernel
theorem eM_lays_76 : decode prog_6_method_73_code 76 = .ok (.iconst 4, 1) := by decide +kernel
theorem eM_lays_77 : decode prog_6_method_73_code 77 = .ok (.lload 5, 2) := by decide +kernel
theorem eM_lays_79 : decode prog_6_method_73_code 79 = .ok (.l2i, 1) := by decide +kernel
theorem eM_lays_80 : decode prog_6_method_73_code 80 = .ok (.invokevirtual 61, 3) := by decide +kernel
theorem eM_lays_83 : decode prog_6_method_73_code 83 = .ok (.iinc 3 1, 3) := by decide +kernel
theorem eM_lays_86 : decode prog_6_method_73_code 86 = .ok (.iinc 4 1, 3) := by decide +kernel
theorem eM_lays_89 : decode prog_6_method_73_code 89 = .ok (.goto (-68), 3) := by decide +kernel
theorem eM_lays_92 : decode prog_6_method_73_code 92 = .ok (.iload_n 3, 1) := by decide +kernel
theorem eM_lays_93 : decode prog_6_method_73_code 93 = .ok (.ireturn, 1) := by decide +kernel
theorem eM_badSheet_0 : decode prog_6_method_72_code 0 = .ok (.iload_n 1, 1) := by decide +kernel
theorem eM_badSheet_1 : decode prog_6_method_72_code 1 = .ok (.invokestatic 235, 3) := by decide +kernel
theorem eM_badSheet_4 : decode prog_6_method_72_code 4 = .ok (.ifCond .ne 8, 3) := by decide +kernel
theorem eM_badSheet_7 : decode prog_6_method_72_code 7 = .ok (.ldc 41, 2) := by decide +kernel
theorem eM_badSheet_9 : decode prog_6_method_72_code 9 = .ok (.goto 18, 3) := by decide +kernel
theorem eM_badSheet_12 : decode prog_6_method_72_code 12 = .ok (.aload_n 0, 1) := by decide +kernel
theorem eM_badSheet_13 : decode prog_6_method_72_code 13 = .ok (.getfield 22, 3) := by decide +kernel
theorem eM_badSheet_16 : decode prog_6_method_72_code 16 = .ok (.iload_n 1, 1) := by decide +kernel
theorem eM_badSheet_17 : decode prog_6_method_72_code 17 = .ok (.iaload, 1) := by decide +kernel
theorem eM_badSheet_18 : decode prog_6_method_72_code 18 = .ok (.ifCond .ne 8, 3) := by decide +kernel
theorem eM_badSheet_21 : decode prog_6_method_72_code 21 = .ok (.ldc 239, 2) := by decide +kernel
theorem eM_badSheet_23 : decode prog_6_method_72_code 23 = .ok (.goto 4, 3) := by decide +kernel
theorem eM_badSheet_26 : decode prog_6_method_72_code 26 = .ok (.iconst 0, 1) := by decide +kernel
theorem eM_badSheet_27 : decode prog_6_method_72_code 27 = .ok (.ireturn, 1) := by decide +kernel
theorem eM_book_0 : decode prog_6_method_74_code 0 = .ok (.aload_n 0, 1) := by decide +kernel
theorem eM_book_1 : decode prog_6_method_74_code 1 = .ok (.iload_n 1, 1) := by decide +kernel
theorem eM_book_2 : decode prog_6_method_74_code 2 = .ok (.invokevirtual 247, 3) := by decide +kernel
theorem eM_book_5 : decode prog_6_method_74_code 5 = .ok (.istore_n 3, 1) := by decide +kernel
theorem eM_book_6 : decode prog_6_method_74_code 6 = .ok (.iload_n 3, 1) := by decide +kernel
theorem eM_book_7 : decode prog_6_method_74_code 7 = .ok (.ifCond .eq 9, 3) := by decide +kernel
theorem eM_book_10 : decode prog_6_method_74_code 10 = .ok (.aload_n 0, 1) := by decide +kernel
theorem eM_book_11 : decode prog_6_method_74_code 11 = .ok (.iload_n 3, 1) := by decide +kernel
theorem eM_book_12 : decode prog_6_method_74_code 12 = .ok (.invokevirtual 57, 3) := by decide +kernel
theorem eM_book_15 : decode prog_6_method_74_code 15 = .ok (.ireturn, 1) := by decide +kernel
theorem eM_book_16 : decode prog_6_method_74_code 16 = .ok (.aload_n 0, 1) := by decide +kernel
theorem eM_book_17 : decode prog_6_method_74_code 17 = .ok (.iload_n 2, 1) := by decide +kernel
theorem eM_book_18 : decode prog_6_method_74_code 18 = .ok (.invokevirtual 77, 3) := by decide +kernel
theorem eM_book_21 : decode prog_6_method_74_code 21 = .ok (.ifCond .ne 10, 3) := by decide +kernel
theorem eM_book_24 : decode prog_6_method_74_code 24 = .ok (.aload_n 0, 1) := by decide +kernel
theorem eM_book_25 : decode prog_6_method_74_code 25 = .ok (.ldc 41, 2) := by decide +kernel
theorem eM_book_27 : decode prog_6_method_74_code 27 = .ok (.invokevirtual 57, 3) := by decide +kernel
theorem eM_book_30 : decode prog_6_method_74_code 30 = .ok (.ireturn, 1) := by decide +kernel
theorem eM_book_31 : decode prog_6_method_74_code 31 = .ok (.iconst 0, 1) := by decide +kernel
theorem eM_book_32 : decode prog_6_method_74_code 32 = .ok (.istore 4, 2) := by decide +kernel
theorem eM_book_34 : decode prog_6_method_74_code 34 = .ok (.iload 4, 2) := by decide +kernel
theorem eM_book_36 : decode prog_6_method_74_code 36 = .ok (.aload_n 0, 1) := by decide +kernel
theorem eM_book_37 : decode prog_6_method_74_code 37 = .ok (.getfield 25, 3) := by decide +kernel
theorem eM_book_40 : decode prog_6_method_74_code 40 = .ok (.iload_n 1, 1) := by decide +kernel
theorem eM_book_41 : decode prog_6_method_74_code 41 = .ok (.iaload, 1) := by decide +kernel
theorem eM_book_42 : decode prog_6_method_74_code 42 = .ok (.if_icmp .ge 43, 3) := by decide +kernel
theorem eM_book_45 : decode prog_6_method_74_code 45 = .ok (.aload_n 0, 1) := by decide +kernel
theorem eM_book_46 : decode prog_6_method_74_code 46 = .ok (.getfield 28, 3) := by decide +kernel
theorem eM_book_49 : decode prog_6_method_74_code 49 = .ok (.bipush 40, 2) := by decide +kernel
theorem eM_book_51 : decode prog_6_method_74_code 51 = .ok (.iload_n 1, 1) := by decide +kernel
theorem eM_book_52 : decode prog_6_method_74_code 52 = .ok (.imul, 1) := by decide +kernel
theorem eM_book_53 : decode prog_6_method_74_code 53 = .ok (.iload 4, 2) := by decide +kernel
theorem eM_book_55 : decode prog_6_method_74_code 55 = .ok (.iadd, 1) := by decide +kernel
theorem eM_book_56 : decode prog_6_method_74_code 56 = .ok (.aload_n 0, 1) := by decide +kernel
theorem eM_book_57 : decode prog_6_method_74_code 57 = .ok (.iload_n 2, 1) := by decide +kernel
theorem eM_book_58 : decode prog_6_method_74_code 58 = .ok (.aload_n 0, 1) := by decide +kernel
theorem eM_book_59 : decode prog_6_method_74_code 59 = .ok (.getfield 7, 3) := by decide +kernel
theorem eM_book_62 : decode prog_6_method_74_code 62 = .ok (.iconst 0, 1) := by decide +kernel
theorem eM_book_63 : decode prog_6_method_74_code 63 = .ok (.iaload, 1) := by decide +kernel
theorem eM_book_64 : decode prog_6_method_74_code 64 = .ok (.iload 4, 2) := by decide +kernel
theorem eM_book_66 : decode prog_6_method_74_code 66 = .ok (.iadd, 1) := by decide +kernel
theorem eM_book_67 : decode prog_6_method_74_code 67 = .ok (.invokevirtual 80, 3) := by decide +kernel
theorem eM_book_70 : decode prog_6_method_74_code 70 = .ok (.ifCond .eq 7, 3) := by decide +kernel
theorem eM_book_73 : decode prog_6_method_74_code 73 = .ok (.lconst 1, 1) := by decide +kernel
theorem eM_book_74 : decode prog_6_method_74_code 74 = .ok (.goto 4, 3) := by decide +kernel
theorem eM_book_77 : decode prog_6_method_74_code 77 = .ok (.lconst 0, 1) := by decide +kernel
theorem eM_book_78 : decode prog_6_method_74_code 78 = .ok (.lastore, 1) := by decide +kernel
theorem eM_book_79 : decode prog_6_method_74_code 79 = .ok (.iinc 4 1, 3) := by decide +kernel
theorem eM_book_82 : decode prog_6_method_74_code 82 = .ok (.goto (-48), 3) := by decide +kernel
theorem eM_book_85 : decode prog_6_method_74_code 85 = .ok (.aload_n 0, 1) := by decide +kernel
theorem eM_book_86 : decode prog_6_method_74_code 86 = .ok (.getfield 25, 3) := by decide +kernel
theorem eM_book_89 : decode prog_6_method_74_code 89 = .ok (.iload_n 1, 1) := by decide +kernel
theorem eM_book_90 : decode prog_6_method_74_code 90 = .ok (.iaload, 1) := by decide +kernel
theorem eM_book_91 : decode prog_6_method_74_code 91 = .ok (.ireturn, 1) := by decide +kernel
theorem eM_read_0 : decode prog_6_method_76_code 0 = .ok (.aload_n 0, 1) := by decide +kernel
theorem eM_read_1 : decode prog_6_method_76_code 1 = .ok (.iload_n 1, 1) := by decide +kernel
theorem eM_read_2 : decode prog_6_method_76_code 2 = .ok (.invokevirtual 247, 3) := by decide +kernel
theorem eM_read_5 : decode prog_6_method_76_code 5 = .ok (.istore_n 3, 1) := by decide +kernel
theorem eM_read_6 : decode prog_6_method_76_code 6 = .ok (.iload_n 3, 1) := by decide +kernel
theorem eM_read_7 : decode prog_6_method_76_code 7 = .ok (.ifCond .eq 9, 3) := by decide +kernel
theorem eM_read_10 : decode prog_6_method_76_code 10 = .ok (.aload_n 0, 1) := by decide +kernel
theorem eM_read_11 : decode prog_6_method_76_code 11 = .ok (.iload_n 3, 1) := by decide +kernel
theorem eM_read_12 : decode prog_6_method_76_code 12 = .ok (.invokevirtual 57, 3) := by decide +kernel
theorem eM_read_15 : decode prog_6_method_76_code 15 = .ok (.ireturn, 1) := by decide +kernel
theorem eM_read_16 : decode prog_6_method_76_code 16 = .ok (.aload_n 0, 1) := by decide +kernel
theorem eM_read_17 : decode prog_6_method_76_code 17 = .ok (.iload_n 2, 1) := by decide +kernel
theorem eM_read_18 : decode prog_6_method_76_code 18 = .ok (.invokevirtual 77, 3) := by decide +kernel
theorem eM_read_21 : decode prog_6_method_76_code 21 = .ok (.ifCond .ne 10, 3) := by decide +kernel
theorem eM_read_24 : decode prog_6_method_76_code 24 = .ok (.aload_n 0, 1) := by decide +kernel
theorem eM_read_25 : decode prog_6_method_76_code 25 = .ok (.ldc 41, 2) := by decide +kernel
theorem eM_read_27 : decode prog_6_method_76_code 27 = .ok (.invokevirtual 57, 3) := by decide +kernel
theorem eM_read_30 : decode prog_6_method_76_code 30 = .ok (.ireturn, 1) := by decide +kernel
theorem eM_read_31 : decode prog_6_method_76_code 31 = .ok (.aload_n 0, 1) := by decide +kernel
theorem eM_read_32 : decode prog_6_method_76_code 32 = .ok (.iload_n 2, 1) := by decide +kernel
theorem eM_read_33 : decode prog_6_method_76_code 33 = .ok (.iconst 0, 1) := by decide +kernel
theorem eM_read_34 : decode prog_6_method_76_code 34 = .ok (.invokevirtual 46, 3) := by decide +kernel
theorem eM_read_37 : decode prog_6_method_76_code 37 = .ok (.istore 4, 2) := by decide +kernel
theorem eM_read_39 : decode prog_6_method_76_code 39 = .ok (.aload_n 0, 1) := by decide +kernel
theorem eM_read_40 : decode prog_6_method_76_code 40 = .ok (.iload_n 2, 1) := by decide +kernel
theorem eM_read_41 : decode prog_6_method_76_code 41 = .ok (.iconst 3, 1) := by decide +kernel
theorem eM_read_42 : decode prog_6_method_76_code 42 = .ok (.invokevirtual 46, 3) := by decide +kernel
theorem eM_read_45 : decode prog_6_method_76_code 45 = .ok (.istore 5, 2) := by decide +kernel
theorem eM_read_47 : decode prog_6_method_76_code 47 = .ok (.iconst 0, 1) := by decide +kernel
theorem eM_read_48 : decode prog_6_method_76_code 48 = .ok (.istore 6, 2) := by decide +kernel
theorem eM_read_50 : decode prog_6_method_76_code 50 = .ok (.iconst 0, 1) := by decide +kernel
theorem eM_read_51 : decode prog_6_method_76_code 51 = .ok (.istore 7, 2) := by decide +kernel
theorem eM_read_53 : decode prog_6_method_76_code 53 = .ok (.iload 7, 2) := by decide +kernel
theorem eM_read_55 : decode prog_6_method_76_code 55 = .ok (.bipush 24, 2) := by decide +kernel
theorem eM_read_57 : decode prog_6_method_76_code 57 = .ok (.if_icmp .ge 48, 3) := by decide +kernel
theorem eM_read_60 : decode prog_6_method_76_code 60 = .ok (.aload_n 0, 1) := by decide +kernel
theorem eM_read_61 : decode prog_6_method_76_code 61 = .ok (.iload_n 2, 1) := by decide +kernel
theorem eM_read_62 : decode prog_6_method_76_code 62 = .ok (.iconst 0, 1) := by decide +kernel
theorem eM_read_63 : decode prog_6_method_76_code 63 = .ok (.iload 7, 2) := by decide +kernel
theorem eM_read_65 : decode prog_6_method_76_code 65 = .ok (.iconst 4, 1) := by decide +kernel
theorem eM_read_66 : decode prog_6_method_76_code 66 = .ok (.idiv, 1) := by decide +kernel
theorem eM_read_67 : decode prog_6_method_76_code 67 = .ok (.invokevirtual 61, 3) := by decide +kernel
theorem eM_read_70 : decode prog_6_method_76_code 70 = .ok (.aload_n 0, 1) := by decide +kernel
theorem eM_read_71 : decode prog_6_method_76_code 71 = .ok (.iload_n 2, 1) := by decide +kernel
theorem eM_read_72 : decode prog_6_method_76_code 72 = .ok (.iconst 3, 1) := by decide +kernel
theorem eM_read_73 : decode prog_6_method_76_code 73 = .ok (.iload 7, 2) := by decide +kernel
theorem eM_read_75 : decode prog_6_method_76_code 75 = .ok (.iconst 4, 1) := by decide +kernel
theorem eM_read_76 : decode prog_6_method_76_code 76 = .ok (.irem, 1) := by decide +kernel
theorem eM_read_77 : decode prog_6_method_76_code 77 = .ok (.invokevirtual 61, 3) := by decide +kernel
theorem eM_read_80 : decode prog_6_method_76_code 80 = .ok (.iload 6, 2) := by decide +kernel
theorem eM_read_82 : decode prog_6_method_76_code 82 = .ok (.aload_n 0, 1) := by decide +kernel
theorem eM_read_83 : decode prog_6_method_76_code 83 = .ok (.iload_n 1, 1) := by decide +kernel
theorem eM_read_84 : decode prog_6_method_76_code 84 = .ok (.iload_n 2, 1) := by decide +kernel
theorem eM_read_85 : decode prog_6_method_76_code 85 = .ok (.invokevirtual 252, 3) := by decide +kernel
theorem eM_read_88 : decode prog_6_method_76_code 88 = .ok (.ifCond .eq 7, 3) := by decide +kernel
theorem eM_read_91 : decode prog_6_method_76_code 91 = .ok (.iconst 1, 1) := by decide +kernel
theorem eM_read_92 : decode prog_6_method_76_code 92 = .ok (.goto 4, 3) := by decide +kernel
theorem eM_read_95 : decode prog_6_method_76_code 95 = .ok (.iconst 0, 1) := by decide +kernel
theorem eM_read_96 : decode prog_6_method_76_code 96 = .ok (.iadd, 1) := by decide +kernel
theorem eM_read_97 : decode prog_6_method_76_code 97 = .ok (.istore 6, 2) := by decide +kernel
theorem eM_read_99 : decode prog_6_method_76_code 99 = .ok (.iinc 7 1, 3) := by decide +kernel
theorem eM_read_102 : decode prog_6_method_76_code 102 = .ok (.goto (-49), 3) := by decide +kernel
theorem eM_read_105 : decode prog_6_method_76_code 105 = .ok (.aload_n 0, 1) := by decide +kernel
theorem eM_read_106 : decode prog_6_method_76_code 106 = .ok (.iload_n 2, 1) := by decide +kernel
theorem eM_read_107 : decode prog_6_method_76_code 107 = .ok (.iconst 0, 1) := by decide +kernel
theorem eM_read_108 : decode prog_6_method_76_code 108 = .ok (.iload 4, 2) := by decide +kernel
theorem eM_read_110 : decode prog_6_method_76_code 110 = .ok (.invokevirtual 61, 3) := by decide +kernel
theorem eM_read_113 : decode prog_6_method_76_code 113 = .ok (.aload_n 0, 1) := by decide +kernel
theorem eM_read_114 : decode prog_6_method_76_code 114 = .ok (.iload_n 2, 1) := by decide +kernel
theorem eM_read_115 : decode prog_6_method_76_code 115 = .ok (.iconst 3, 1) := by decide +kernel
theorem eM_read_116 : decode prog_6_method_76_code 116 = .ok (.iload 5, 2) := by decide +kernel
theorem eM_read_118 : decode prog_6_method_76_code 118 = .ok (.invokevirtual 61, 3) := by decide +kernel
theorem eM_read_121 : decode prog_6_method_76_code 121 = .ok (.iload 6, 2) := by decide +kernel
theorem eM_read_123 : decode prog_6_method_76_code 123 = .ok (.ireturn, 1) := by decide +kernel
theorem eM_isSo_0 : decode prog_6_method_75_code 0 = .ok (.iconst 1, 1) := by decide +kernel
theorem eM_isSo_1 : decode prog_6_method_75_code 1 = .ok (.istore_n 3, 1) := by decide +kernel
theorem eM_isSo_2 : decode prog_6_method_75_code 2 = .ok (.iconst 0, 1) := by decide +kernel
theorem eM_isSo_3 : decode prog_6_method_75_code 3 = .ok (.istore 4, 2) := by decide +kernel
theorem eM_isSo_5 : decode prog_6_method_75_code 5 = .ok (.iload 4, 2) := by decide +kernel
theorem eM_isSo_7 : decode prog_6_method_75_code 7 = .ok (.aload_n 0, 1) := by decide +kernel
theorem eM_isSo_8 : decode prog_6_method_75_code 8 = .ok (.getfield 25, 3) := by decide +kernel
theorem eM_isSo_11 : decode prog_6_method_75_code 11 = .ok (.iload_n 1, 1) := by decide +kernel
theorem eM_isSo_12 : decode prog_6_method_75_code 12 = .ok (.iaload, 1) := by decide +kernel
theorem eM_isSo_13 : decode prog_6_method_75_code 13 = .ok (.if_icmp .ge 57, 3) := by decide +kernel
theorem eM_isSo_16 : decode prog_6_method_75_code 16 = .ok (.iload_n 3, 1) := by decide +kernel
theorem eM_isSo_17 : decode prog_6_method_75_code 17 = .ok (.ifCond .eq 53, 3) := by decide +kernel
theorem eM_isSo_20 : decode prog_6_method_75_code 20 = .ok (.aload_n 0, 1) := by decide +kernel
theorem eM_isSo_21 : decode prog_6_method_75_code 21 = .ok (.getfield 28, 3) := by decide +kernel
theorem eM_isSo_24 : decode prog_6_method_75_code 24 = .ok (.bipush 40, 2) := by decide +kernel
theorem eM_isSo_26 : decode prog_6_method_75_code 26 = .ok (.iload_n 1, 1) := by decide +kernel
theorem eM_isSo_27 : decode prog_6_method_75_code 27 = .ok (.imul, 1) := by decide +kernel
theorem eM_isSo_28 : decode prog_6_method_75_code 28 = .ok (.iload 4, 2) := by decide +kernel
theorem eM_isSo_30 : decode prog_6_method_75_code 30 = .ok (.iadd, 1) := by decide +kernel
theorem eM_isSo_31 : decode prog_6_method_75_code 31 = .ok (.laload, 1) := by decide +kernel
theorem eM_isSo_32 : decode prog_6_method_75_code 32 = .ok (.aload_n 0, 1) := by decide +kernel
theorem eM_isSo_33 : decode prog_6_method_75_code 33 = .ok (.iload_n 2, 1) := by decide +kernel
theorem eM_isSo_34 : decode prog_6_method_75_code 34 = .ok (.aload_n 0, 1) := by decide +kernel
theorem eM_isSo_35 : decode prog_6_method_75_code 35 = .ok (.getfield 7, 3) := by decide +kernel
theorem eM_isSo_38 : decode prog_6_method_75_code 38 = .ok (.iconst 0, 1) := by decide +kernel
theorem eM_isSo_39 : decode prog_6_method_75_code 39 = .ok (.iaload, 1) := by decide +kernel
theorem eM_isSo_40 : decode prog_6_method_75_code 40 = .ok (.iload 4, 2) := by decide +kernel
theorem eM_isSo_42 : decode prog_6_method_75_code 42 = .ok (.iadd, 1) := by decide +kernel
theorem eM_isSo_43 : decode prog_6_method_75_code 43 = .ok (.invokevirtual 80, 3) := by decide +kernel
theorem eM_isSo_46 : decode prog_6_method_75_code 46 = .ok (.ifCond .eq 7, 3) := by decide +kernel
theorem eM_isSo_49 : decode prog_6_method_75_code 49 = .ok (.lconst 1, 1) := by decide +kernel
theorem eM_isSo_50 : decode prog_6_method_75_code 50 = .ok (.goto 4, 3) := by decide +kernel
theorem eM_isSo_53 : decode prog_6_method_75_code 53 = .ok (.lconst 0, 1) := by decide +kernel
theorem eM_isSo_54 : decode prog_6_method_75_code 54 = .ok (.lcmp, 1) := by decide +kernel
theorem eM_isSo_55 : decode prog_6_method_75_code 55 = .ok (.ifCond .ne 7, 3) := by decide +kernel
theorem eM_isSo_58 : decode prog_6_method_75_code 58 = .ok (.iconst 1, 1) := by decide +kernel
theorem eM_isSo_59 : decode prog_6_method_75_code 59 = .ok (.goto 4, 3) := by decide +kernel
theorem eM_isSo_62 : decode prog_6_method_75_code 62 = .ok (.iconst 0, 1) := by decide +kernel
theorem eM_isSo_63 : decode prog_6_method_75_code 63 = .ok (.istore_n 3, 1) := by decide +kernel
theorem eM_isSo_64 : decode prog_6_method_75_code 64 = .ok (.iinc 4 1, 3) := by decide +kernel
theorem eM_isSo_67 : decode prog_6_method_75_code 67 = .ok (.goto (-62), 3) := by decide +kernel
theorem eM_isSo_70 : decode prog_6_method_75_code 70 = .ok (.iload_n 3, 1) := by decide +kernel
theorem eM_isSo_71 : decode prog_6_method_75_code 71 = .ok (.ireturn, 1) := by decide +kernel
theorem eM_image_0 : decode prog_6_method_78_code 0 = .ok (.aload_n 0, 1) := by decide +kernel
theorem eM_image_1 : decode prog_6_method_78_code 1 = .ok (.iconst 1, 1) := by decide +kernel
theorem eM_image_2 : decode prog_6_method_78_code 2 = .ok (.aload_n 0, 1) := by decide +kernel
theorem eM_image_3 : decode prog_6_method_78_code 3 = .ok (.getfield 35, 3) := by decide +kernel
theorem eM_image_6 : decode prog_6_method_78_code 6 = .ok (.invokevirtual 142, 3) := by decide +kernel
theorem eM_image_9 : decode prog_6_method_78_code 9 = .ok (.aload_n 0, 1) := by decide +kernel
theorem eM_image_10 : decode prog_6_method_78_code 10 = .ok (.iconst 1, 1) := by decide +kernel
theorem eM_image_11 : decode prog_6_method_78_code 11 = .ok (.putfield 255, 3) := by decide +kernel
theorem eM_image_14 : decode prog_6_method_78_code 14 = .ok (.iconst 1, 1) := by decide +kernel
theorem eM_image_15 : decode prog_6_method_78_code 15 = .ok (.ireturn, 1) := by decide +kernel
theorem eM_undo_0 : decode prog_6_method_79_code 0 = .ok (.aload_n 0, 1) := by decide +kernel
theorem eM_undo_1 : decode prog_6_method_79_code 1 = .ok (.getfield 255, 3) := by decide +kernel
theorem eM_undo_4 : decode prog_6_method_79_code 4 = .ok (.ifCond .ne 10, 3) := by decide +kernel
theorem eM_undo_7 : decode prog_6_method_79_code 7 = .ok (.aload_n 0, 1) := by decide +kernel
theorem eM_undo_8 : decode prog_6_method_79_code 8 = .ok (.ldc 97, 2) := by decide +kernel
theorem eM_undo_10 : decode prog_6_method_79_code 10 = .ok (.invokevirtual 57, 3) := by decide +kernel
theorem eM_undo_13 : decode prog_6_method_79_code 13 = .ok (.ireturn, 1) := by decide +kernel
theorem eM_undo_14 : decode prog_6_method_79_code 14 = .ok (.aload_n 0, 1) := by decide +kernel
theorem eM_undo_15 : decode prog_6_method_79_code 15 = .ok (.iconst 0, 1) := by decide +kernel
theorem eM_undo_16 : decode prog_6_method_79_code 16 = .ok (.aload_n 0, 1) := by decide +kernel
theorem eM_undo_17 : decode prog_6_method_79_code 17 = .ok (.getfield 35, 3) := by decide +kernel
theorem eM_undo_20 : decode prog_6_method_79_code 20 = .ok (.invokevirtual 142, 3) := by decide +kernel
theorem eM_undo_23 : decode prog_6_method_79_code 23 = .ok (.aload_n 0, 1) := by decide +kernel
theorem eM_undo_24 : decode prog_6_method_79_code 24 = .ok (.getfield 7, 3) := by decide +kernel
theorem eM_undo_27 : decode prog_6_method_79_code 27 = .ok (.iconst 5, 1) := by decide +kernel
theorem eM_undo_28 : decode prog_6_method_79_code 28 = .ok (.iaload, 1) := by decide +kernel
theorem eM_undo_29 : decode prog_6_method_79_code 29 = .ok (.ireturn, 1) := by decide +kernel
theorem eM_tear_0 : decode prog_6_method_80_code 0 = .ok (.aload_n 0, 1) := by decide +kernel
theorem eM_tear_1 : decode prog_6_method_80_code 1 = .ok (.getfield 255, 3) := by decide +kernel
theorem eM_tear_4 : decode prog_6_method_80_code 4 = .ok (.ifCond .eq 7, 3) := by decide +kernel
theorem eM_tear_7 : decode prog_6_method_80_code 7 = .ok (.iconst 1, 1) := by decide +kernel
theorem eM_tear_8 : decode prog_6_method_80_code 8 = .ok (.goto 4, 3) := by decide +kernel
theorem eM_tear_11 : decode prog_6_method_80_code 11 = .ok (.iconst 0, 1) := by decide +kernel
theorem eM_tear_12 : decode prog_6_method_80_code 12 = .ok (.istore_n 1, 1) := by decide +kernel
theorem eM_tear_13 : decode prog_6_method_80_code 13 = .ok (.aload_n 0, 1) := by decide +kernel
theorem eM_tear_14 : decode prog_6_method_80_code 14 = .ok (.iconst 0, 1) := by decide +kernel
theorem eM_tear_15 : decode prog_6_method_80_code 15 = .ok (.putfield 255, 3) := by decide +kernel
theorem eM_tear_18 : decode prog_6_method_80_code 18 = .ok (.iload_n 1, 1) := by decide +kernel
theorem eM_tear_19 : decode prog_6_method_80_code 19 = .ok (.ireturn, 1) := by decide +kernel
theorem eM_count_0 : decode prog_6_method_81_code 0 = .ok (.iconst 0, 1) := by decide +kernel
theorem eM_count_1 : decode prog_6_method_81_code 1 = .ok (.istore_n 2, 1) := by decide +kernel
theorem eM_count_2 : decode prog_6_method_81_code 2 = .ok (.iload_n 1, 1) := by decide +kernel
theorem eM_count_3 : decode prog_6_method_81_code 3 = .ok (.tableswitch 109 0 3 #[29, 36, 41, 73], 29) := by decide +kernel
theorem eM_count_32 : decode prog_6_method_81_code 32 = .ok (.aload_n 0, 1) := by decide +kernel
theorem eM_count_33 : decode prog_6_method_81_code 33 = .ok (.getfield 7, 3) := by decide +kernel
theorem eM_count_36 : decode prog_6_method_81_code 36 = .ok (.iconst 5, 1) := by decide +kernel
theorem eM_count_37 : decode prog_6_method_81_code 37 = .ok (.iaload, 1) := by decide +kernel
theorem eM_count_38 : decode prog_6_method_81_code 38 = .ok (.ireturn, 1) := by decide +kernel
theorem eM_count_39 : decode prog_6_method_81_code 39 = .ok (.aload_n 0, 1) := by decide +kernel
theorem eM_count_40 : decode prog_6_method_81_code 40 = .ok (.getfield 146, 3) := by decide +kernel
theorem eM_count_43 : decode prog_6_method_81_code 43 = .ok (.ireturn, 1) := by decide +kernel
theorem eM_count_44 : decode prog_6_method_81_code 44 = .ok (.iconst 0, 1) := by decide +kernel
theorem eM_count_45 : decode prog_6_method_81_code 45 = .ok (.istore_n 3, 1) := by decide +kernel
theorem eM_count_46 : decode prog_6_method_81_code 46 = .ok (.iload_n 3, 1) := by decide +kernel
theorem eM_count_47 : decode prog_6_method_81_code 47 = .ok (.aload_n 0, 1) := by decide +kernel
theorem eM_count_48 : decode prog_6_method_81_code 48 = .ok (.getfield 7, 3) := by decide +kernel
theorem eM_count_51 : decode prog_6_method_81_code 51 = .ok (.iconst 5, 1) := by decide +kernel
theorem eM_count_52 : decode prog_6_method_81_code 52 = .ok (.iaload, 1) := by decide +kernel
theorem eM_count_53 : decode prog_6_method_81_code 53 = .ok (.if_icmp .ge 21, 3) := by decide +kernel
theorem eM_count_56 : decode prog_6_method_81_code 56 = .ok (.iload_n 2, 1) := by decide +kernel
theorem eM_count_57 : decode prog_6_method_81_code 57 = .ok (.aload_n 0, 1) := by decide +kernel
theorem eM_count_58 : decode prog_6_method_81_code 58 = .ok (.iload_n 3, 1) := by decide +kernel
theorem eM_count_59 : decode prog_6_method_81_code 59 = .ok (.iconst 4, 1) := by decide +kernel
theorem eM_count_60 : decode prog_6_method_81_code 60 = .ok (.invokevirtual 46, 3) := by decide +kernel
theorem eM_count_63 : decode prog_6_method_81_code 63 = .ok (.invokestatic 120, 3) := by decide +kernel
theorem eM_count_66 : decode prog_6_method_81_code 66 = .ok (.iadd, 1) := by decide +kernel
theorem eM_count_67 : decode prog_6_method_81_code 67 = .ok (.istore_n 2, 1) := by decide +kernel
theorem eM_count_68 : decode prog_6_method_81_code 68 = .ok (.iinc 3 1, 3) := by decide +kernel
theorem eM_count_71 : decode prog_6_method_81_code 71 = .ok (.goto (-25), 3) := by decide +kernel
theorem eM_count_74 : decode prog_6_method_81_code 74 = .ok (.iload_n 2, 1) := by decide +kernel
theorem eM_count_75 : decode prog_6_method_81_code 75 = .ok (.ireturn, 1) := by decide +kernel
theorem eM_count_76 : decode prog_6_method_81_code 76 = .ok (.iconst 0, 1) := by decide +kernel
theorem eM_count_77 : decode prog_6_method_81_code 77 = .ok (.istore_n 3, 1) := by decide +kernel
theorem eM_count_78 : decode prog_6_method_81_code 78 = .ok (.iload_n 3, 1) := by decide +kernel
theorem eM_count_79 : decode prog_6_method_81_code 79 = .ok (.aload_n 0, 1) := by decide +kernel
theorem eM_count_80 : decode prog_6_method_81_code 80 = .ok (.getfield 7, 3) := by decide +kernel
theorem eM_count_83 : decode prog_6_method_81_code 83 = .ok (.iconst 5, 1) := by decide +kernel
theorem eM_count_84 : decode prog_6_method_81_code 84 = .ok (.iaload, 1) := by decide +kernel
theorem eM_count_85 : decode prog_6_method_81_code 85 = .ok (.if_icmp .ge 25, 3) := by decide +kernel
theorem eM_count_88 : decode prog_6_method_81_code 88 = .ok (.iload_n 2, 1) := by decide +kernel
theorem eM_count_89 : decode prog_6_method_81_code 89 = .ok (.aload_n 0, 1) := by decide +kernel
theorem eM_count_90 : decode prog_6_method_81_code 90 = .ok (.iload_n 3, 1) := by decide +kernel
theorem eM_count_91 : decode prog_6_method_81_code 91 = .ok (.invokevirtual 83, 3) := by decide +kernel
theorem eM_count_94 : decode prog_6_method_81_code 94 = .ok (.ifCond .eq 7, 3) := by decide +kernel
theorem eM_count_97 : decode prog_6_method_81_code 97 = .ok (.iconst 1, 1) := by decide +kernel
theorem eM_count_98 : decode prog_6_method_81_code 98 = .ok (.goto 4, 3) := by decide +kernel
theorem eM_count_101 : decode prog_6_method_81_code 101 = .ok (.iconst 0, 1) := by decide +kernel
theorem eM_count_102 : decode prog_6_method_81_code 102 = .ok (.iadd, 1) := by decide +kernel
theorem eM_count_103 : decode prog_6_method_81_code 103 = .ok (.istore_n 2, 1) := by decide +kernel
theorem eM_count_104 : decode prog_6_method_81_code 104 = .ok (.iinc 3 1, 3) := by decide +kernel
theorem eM_count_107 : decode prog_6_method_81_code 107 = .ok (.goto (-29), 3) := by decide +kernel
theorem eM_count_110 : decode prog_6_method_81_code 110 = .ok (.iload_n 2, 1) := by decide +kernel
theorem eM_count_111 : decode prog_6_method_81_code 111 = .ok (.ireturn, 1) := by decide +kernel
theorem eM_count_112 : decode prog_6_method_81_code 112 = .ok (.aload_n 0, 1) := by decide +kernel
theorem eM_count_113 : decode prog_6_method_81_code 113 = .ok (.ldc 41, 2) := by decide +kernel
theorem eM_count_115 : decode prog_6_method_81_code 115 = .ok (.invokevirtual 57, 3) := by decide +kernel
theorem eM_count_118 : decode prog_6_method_81_code 118 = .ok (.ireturn, 1) := by decide +kernel
theorem eM_status_0 : decode prog_6_method_82_code 0 = .ok (.iload_n 1, 1) := by decide +kernel
theorem eM_status_1 : decode prog_6_method_82_code 1 = .ok (.iconst (-1), 1) := by decide +kernel
theorem eM_status_2 : decode prog_6_method_82_code 2 = .ok (.bipush 6, 2) := by decide +kernel
theorem eM_status_4 : decode prog_6_method_82_code 4 = .ok (.invokestatic 42, 3) := by decide +kernel
theorem eM_status_7 : decode prog_6_method_82_code 7 = .ok (.ifCond .ne 10, 3) := by decide +kernel
theorem eM_status_10 : decode prog_6_method_82_code 10 = .ok (.aload_n 0, 1) := by decide +kernel
theorem eM_status_11 : decode prog_6_method_82_code 11 = .ok (.ldc 41, 2) := by decide +kernel
theorem eM_status_13 : decode prog_6_method_82_code 13 = .ok (.invokevirtual 57, 3) := by decide +kernel
theorem eM_status_16 : decode prog_6_method_82_code 16 = .ok (.ireturn, 1) := by decide +kernel
theorem eM_status_17 : decode prog_6_method_82_code 17 = .ok (.iconst 0, 1) := by decide +kernel
theorem eM_status_18 : decode prog_6_method_82_code 18 = .ok (.istore_n 2, 1) := by decide +kernel
theorem eM_status_19 : decode prog_6_method_82_code 19 = .ok (.iconst 0, 1) := by decide +kernel
theorem eM_status_20 : decode prog_6_method_82_code 20 = .ok (.istore_n 3, 1) := by decide +kernel
theorem eM_status_21 : decode prog_6_method_82_code 21 = .ok (.iload_n 3, 1) := by decide +kernel
theorem eM_status_22 : decode prog_6_method_82_code 22 = .ok (.bipush 7, 2) := by decide +kernel
theorem eM_status_24 : decode prog_6_method_82_code 24 = .ok (.if_icmp .ge 18, 3) := by decide +kernel
theorem eM_status_27 : decode prog_6_method_82_code 27 = .ok (.iload_n 2, 1) := by decide +kernel
theorem eM_status_28 : decode prog_6_method_82_code 28 = .ok (.aload_n 0, 1) := by decide +kernel
theorem eM_status_29 : decode prog_6_method_82_code 29 = .ok (.getfield 13, 3) := by decide +kernel
theorem eM_status_32 : decode prog_6_method_82_code 32 = .ok (.iload_n 3, 1) := by decide +kernel
theorem eM_status_33 : decode prog_6_method_82_code 33 = .ok (.iaload, 1) := by decide +kernel
theorem eM_status_34 : decode prog_6_method_82_code 34 = .ok (.iadd, 1) := by decide +kernel
theorem eM_status_35 : decode prog_6_method_82_code 35 = .ok (.istore_n 2, 1) := by decide +kernel
theorem eM_status_36 : decode prog_6_method_82_code 36 = .ok (.iinc 3 1, 3) := by decide +kernel
theorem eM_status_39 : decode prog_6_method_82_code 39 = .ok (.goto (-18), 3) := by decide +kernel
theorem eM_status_42 : decode prog_6_method_82_code 42 = .ok (.iload_n 1, 1) := by decide +kernel
theorem eM_status_43 : decode prog_6_method_82_code 43 = .ok (.ifCond .ge 7, 3) := by decide +kernel
theorem eM_status_46 : decode prog_6_method_82_code 46 = .ok (.iload_n 2, 1) := by decide +kernel
theorem eM_status_47 : decode prog_6_method_82_code 47 = .ok (.goto 17, 3) := by decide +kernel
theorem eM_status_50 : decode prog_6_method_82_code 50 = .ok (.aload_n 0, 1) := by decide +kernel
theorem eM_status_51 : decode prog_6_method_82_code 51 = .ok (.getfield 13, 3) := by decide +kernel
theorem eM_status_54 : decode prog_6_method_82_code 54 = .ok (.iload_n 1, 1) := by decide +kernel
theorem eM_status_55 : decode prog_6_method_82_code 55 = .ok (.ifCond .ge 7, 3) := by decide +kernel
theorem eM_status_58 : decode prog_6_method_82_code 58 = .ok (.iconst 0, 1) := by decide +kernel
theorem eM_status_59 : decode prog_6_method_82_code 59 = .ok (.goto 4, 3) := by decide +kernel
theorem eM_status_62 : decode prog_6_method_82_code 62 = .ok (.iload_n 1, 1) := by decide +kernel
theorem eM_status_63 : decode prog_6_method_82_code 63 = .ok (.iaload, 1) := by decide +kernel
theorem eM_status_64 : decode prog_6_method_82_code 64 = .ok (.ireturn, 1) := by decide +kernel
