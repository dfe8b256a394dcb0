theorem d_Go_depthOf_0 : decode prog_3_method_9_code 0 = .ok (.iload_n 1, 1) := by decide +kernel
theorem d_Go_depthOf_1 : decode prog_3_method_9_code 1 = .ok (.sipush 1024, 3) := by decide +kernel
theorem d_Go_depthOf_4 : decode prog_3_method_9_code 4 = .ok (.invokestatic 84, 3) := by decide +kernel
theorem d_Go_depthOf_7 : decode prog_3_method_9_code 7 = .ok (.ifCond .eq 12, 3) := by decide +kernel
theorem d_Go_depthOf_10 : decode prog_3_method_9_code 10 = .ok (.aload_n 0, 1) := by decide +kernel
theorem d_Go_depthOf_11 : decode prog_3_method_9_code 11 = .ok (.getfield 31, 3) := by decide +kernel
theorem d_Go_depthOf_14 : decode prog_3_method_9_code 14 = .ok (.iload_n 1, 1) := by decide +kernel
theorem d_Go_depthOf_15 : decode prog_3_method_9_code 15 = .ok (.iaload, 1) := by decide +kernel
theorem d_Go_depthOf_16 : decode prog_3_method_9_code 16 = .ok (.goto 4, 3) := by decide +kernel
theorem d_Go_depthOf_19 : decode prog_3_method_9_code 19 = .ok (.iconst (-1), 1) := by decide +kernel
theorem d_Go_depthOf_20 : decode prog_3_method_9_code 20 = .ok (.ireturn, 1) := by decide +kernel
theorem d_Go_version_0 : decode prog_3_method_6_code 0 = .ok (.aload_n 0, 1) := by decide +kernel
theorem d_Go_version_1 : decode prog_3_method_6_code 1 = .ok (.getfield 75, 3) := by decide +kernel
theorem d_Go_version_4 : decode prog_3_method_6_code 4 = .ok (.ireturn, 1) := by decide +kernel
theorem d_Go_watched_0 : decode prog_3_method_13_code 0 = .ok (.iload_n 1, 1) := by decide +kernel
theorem d_Go_watched_1 : decode prog_3_method_13_code 1 = .ok (.iconst 4, 1) := by decide +kernel
theorem d_Go_watched_2 : decode prog_3_method_13_code 2 = .ok (.invokestatic 84, 3) := by decide +kernel
theorem d_Go_watched_5 : decode prog_3_method_13_code 5 = .ok (.ifCond .eq 12, 3) := by decide +kernel
theorem d_Go_watched_8 : decode prog_3_method_13_code 8 = .ok (.aload_n 0, 1) := by decide +kernel
theorem d_Go_watched_9 : decode prog_3_method_13_code 9 = .ok (.getfield 21, 3) := by decide +kernel
theorem d_Go_watched_12 : decode prog_3_method_13_code 12 = .ok (.iload_n 1, 1) := by decide +kernel
theorem d_Go_watched_13 : decode prog_3_method_13_code 13 = .ok (.iaload, 1) := by decide +kernel
theorem d_Go_watched_14 : decode prog_3_method_13_code 14 = .ok (.goto 4, 3) := by decide +kernel
theorem d_Go_watched_17 : decode prog_3_method_13_code 17 = .ok (.iconst 0, 1) := by decide +kernel
theorem d_Go_watched_18 : decode prog_3_method_13_code 18 = .ok (.ireturn, 1) := by decide +kernel
theorem d_Go_word_0 : decode prog_3_method_12_code 0 = .ok (.iload_n 1, 1) := by decide +kernel
theorem d_Go_word_1 : decode prog_3_method_12_code 1 = .ok (.bipush 16, 2) := by decide +kernel
theorem d_Go_word_3 : decode prog_3_method_12_code 3 = .ok (.invokestatic 84, 3) := by decide +kernel
theorem d_Go_word_6 : decode prog_3_method_12_code 6 = .ok (.ifCond .eq 12, 3) := by decide +kernel
theorem d_Go_word_9 : decode prog_3_method_12_code 9 = .ok (.aload_n 0, 1) := by decide +kernel
theorem d_Go_word_10 : decode prog_3_method_12_code 10 = .ok (.getfield 24, 3) := by decide +kernel
theorem d_Go_word_13 : decode prog_3_method_12_code 13 = .ok (.iload_n 1, 1) := by decide +kernel
theorem d_Go_word_14 : decode prog_3_method_12_code 14 = .ok (.laload, 1) := by decide +kernel
theorem d_Go_word_15 : decode prog_3_method_12_code 15 = .ok (.goto 4, 3) := by decide +kernel
theorem d_Go_word_18 : decode prog_3_method_12_code 18 = .ok (.lconst 0, 1) := by decide +kernel
theorem d_Go_word_19 : decode prog_3_method_12_code 19 = .ok (.lreturn, 1) := by decide +kernel
theorem d_Th_sayIs_0 : decode prog_5_method_2_code 0 = .ok (.aload_n 0, 1) := by decide +kernel
theorem d_Th_sayIs_1 : decode prog_5_method_2_code 1 = .ok (.getfield 45, 3) := by decide +kernel
theorem d_Th_sayIs_4 : decode prog_5_method_2_code 4 = .ok (.bipush 40, 2) := by decide +kernel
theorem d_Th_sayIs_6 : decode prog_5_method_2_code 6 = .ok (.if_icmp .ge 11, 3) := by decide +kernel
theorem d_Th_sayIs_9 : decode prog_5_method_2_code 9 = .ok (.iload_n 1, 1) := by decide +kernel
theorem d_Th_sayIs_10 : decode prog_5_method_2_code 10 = .ok (.iconst 5, 1) := by decide +kernel
theorem d_Th_sayIs_11 : decode prog_5_method_2_code 11 = .ok (.invokestatic 49, 3) := by decide +kernel
theorem d_Th_sayIs_14 : decode prog_5_method_2_code 14 = .ok (.ifCond .ne 6, 3) := by decide +kernel
theorem d_Th_sayIs_17 : decode prog_5_method_2_code 17 = .ok (.bipush (-3), 2) := by decide +kernel
theorem d_Th_sayIs_19 : decode prog_5_method_2_code 19 = .ok (.ireturn, 1) := by decide +kernel
theorem d_Th_sayIs_20 : decode prog_5_method_2_code 20 = .ok (.iconst 0, 1) := by decide +kernel
theorem d_Th_sayIs_21 : decode prog_5_method_2_code 21 = .ok (.istore_n 3, 1) := by decide +kernel
theorem d_Th_sayIs_22 : decode prog_5_method_2_code 22 = .ok (.iload_n 3, 1) := by decide +kernel
theorem d_Th_sayIs_23 : decode prog_5_method_2_code 23 = .ok (.bipush 16, 2) := by decide +kernel
theorem d_Th_sayIs_25 : decode prog_5_method_2_code 25 = .ok (.if_icmp .ge 32, 3) := by decide +kernel
theorem d_Th_sayIs_28 : decode prog_5_method_2_code 28 = .ok (.aload_n 0, 1) := by decide +kernel
theorem d_Th_sayIs_29 : decode prog_5_method_2_code 29 = .ok (.getfield 9, 3) := by decide +kernel
theorem d_Th_sayIs_32 : decode prog_5_method_2_code 32 = .ok (.iload_n 1, 1) := by decide +kernel
theorem d_Th_sayIs_33 : decode prog_5_method_2_code 33 = .ok (.bipush 16, 2) := by decide +kernel
theorem d_Th_sayIs_35 : decode prog_5_method_2_code 35 = .ok (.imul, 1) := by decide +kernel
theorem d_Th_sayIs_36 : decode prog_5_method_2_code 36 = .ok (.iload_n 3, 1) := by decide +kernel
theorem d_Th_sayIs_37 : decode prog_5_method_2_code 37 = .ok (.iadd, 1) := by decide +kernel
theorem d_Th_sayIs_38 : decode prog_5_method_2_code 38 = .ok (.dup2, 1) := by decide +kernel
theorem d_Th_sayIs_39 : decode prog_5_method_2_code 39 = .ok (.laload, 1) := by decide +kernel
theorem d_Th_sayIs_40 : decode prog_5_method_2_code 40 = .ok (.aload_n 0, 1) := by decide +kernel
theorem d_Th_sayIs_41 : decode prog_5_method_2_code 41 = .ok (.getfield 34, 3) := by decide +kernel
theorem d_Th_sayIs_44 : decode prog_5_method_2_code 44 = .ok (.iload_n 2, 1) := by decide +kernel
theorem d_Th_sayIs_45 : decode prog_5_method_2_code 45 = .ok (.iload_n 3, 1) := by decide +kernel
theorem d_Th_sayIs_46 : decode prog_5_method_2_code 46 = .ok (.invokevirtual 53, 3) := by decide +kernel
theorem d_Th_sayIs_49 : decode prog_5_method_2_code 49 = .ok (.land, 1) := by decide +kernel
theorem d_Th_sayIs_50 : decode prog_5_method_2_code 50 = .ok (.lastore, 1) := by decide +kernel
theorem d_Th_sayIs_51 : decode prog_5_method_2_code 51 = .ok (.iinc 3 1, 3) := by decide +kernel
theorem d_Th_sayIs_54 : decode prog_5_method_2_code 54 = .ok (.goto (-32), 3) := by decide +kernel
theorem d_Th_sayIs_57 : decode prog_5_method_2_code 57 = .ok (.aload_n 0, 1) := by decide +kernel
theorem d_Th_sayIs_58 : decode prog_5_method_2_code 58 = .ok (.iconst 1, 1) := by decide +kernel
theorem d_Th_sayIs_59 : decode prog_5_method_2_code 59 = .ok (.putfield 59, 3) := by decide +kernel
theorem d_Th_sayIs_62 : decode prog_5_method_2_code 62 = .ok (.aload_n 0, 1) := by decide +kernel
theorem d_Th_sayIs_63 : decode prog_5_method_2_code 63 = .ok (.dup, 1) := by decide +kernel
theorem d_Th_sayIs_64 : decode prog_5_method_2_code 64 = .ok (.getfield 45, 3) := by decide +kernel
theorem d_Th_sayIs_67 : decode prog_5_method_2_code 67 = .ok (.iconst 1, 1) := by decide +kernel
theorem d_Th_sayIs_68 : decode prog_5_method_2_code 68 = .ok (.iadd, 1) := by decide +kernel
theorem d_Th_sayIs_69 : decode prog_5_method_2_code 69 = .ok (.putfield 45, 3) := by decide +kernel
theorem d_Th_sayIs_72 : decode prog_5_method_2_code 72 = .ok (.aload_n 0, 1) := by decide +kernel
theorem d_Th_sayIs_73 : decode prog_5_method_2_code 73 = .ok (.getfield 45, 3) := by decide +kernel
theorem d_Th_sayIs_76 : decode prog_5_method_2_code 76 = .ok (.ireturn, 1) := by decide +kernel
theorem d_Th_sayHas_0 : decode prog_5_method_3_code 0 = .ok (.aload_n 0, 1) := by decide +kernel
theorem d_Th_sayHas_1 : decode prog_5_method_3_code 1 = .ok (.getfield 63, 3) := by decide +kernel
theorem d_Th_sayHas_4 : decode prog_5_method_3_code 4 = .ok (.bipush 40, 2) := by decide +kernel
theorem d_Th_sayHas_6 : decode prog_5_method_3_code 6 = .ok (.if_icmp .ge 19, 3) := by decide +kernel
theorem d_Th_sayHas_9 : decode prog_5_method_3_code 9 = .ok (.iload_n 1, 1) := by decide +kernel
theorem d_Th_sayHas_10 : decode prog_5_method_3_code 10 = .ok (.iconst 5, 1) := by decide +kernel
theorem d_Th_sayHas_11 : decode prog_5_method_3_code 11 = .ok (.invokestatic 49, 3) := by decide +kernel
theorem d_Th_sayHas_14 : decode prog_5_method_3_code 14 = .ok (.ifCond .eq 11, 3) := by decide +kernel
theorem d_Th_sayHas_17 : decode prog_5_method_3_code 17 = .ok (.iload_n 3, 1) := by decide +kernel
theorem d_Th_sayHas_18 : decode prog_5_method_3_code 18 = .ok (.iconst 5, 1) := by decide +kernel
theorem d_Th_sayHas_19 : decode prog_5_method_3_code 19 = .ok (.invokestatic 49, 3) := by decide +kernel
theorem d_Th_sayHas_22 : decode prog_5_method_3_code 22 = .ok (.ifCond .ne 6, 3) := by decide +kernel
theorem d_Th_sayHas_25 : decode prog_5_method_3_code 25 = .ok (.bipush (-3), 2) := by decide +kernel
theorem d_Th_sayHas_27 : decode prog_5_method_3_code 27 = .ok (.ireturn, 1) := by decide +kernel
theorem d_Th_sayHas_28 : decode prog_5_method_3_code 28 = .ok (.aload_n 0, 1) := by decide +kernel
theorem d_Th_sayHas_29 : decode prog_5_method_3_code 29 = .ok (.getfield 15, 3) := by decide +kernel
theorem d_Th_sayHas_32 : decode prog_5_method_3_code 32 = .ok (.iload_n 1, 1) := by decide +kernel
theorem d_Th_sayHas_33 : decode prog_5_method_3_code 33 = .ok (.iconst 5, 1) := by decide +kernel
theorem d_Th_sayHas_34 : decode prog_5_method_3_code 34 = .ok (.imul, 1) := by decide +kernel
theorem d_Th_sayHas_35 : decode prog_5_method_3_code 35 = .ok (.iload_n 3, 1) := by decide +kernel
theorem d_Th_sayHas_36 : decode prog_5_method_3_code 36 = .ok (.iadd, 1) := by decide +kernel
theorem d_Th_sayHas_37 : decode prog_5_method_3_code 37 = .ok (.dup2, 1) := by decide +kernel
theorem d_Th_sayHas_38 : decode prog_5_method_3_code 38 = .ok (.iaload, 1) := by decide +kernel
theorem d_Th_sayHas_39 : decode prog_5_method_3_code 39 = .ok (.iconst 1, 1) := by decide +kernel
theorem d_Th_sayHas_40 : decode prog_5_method_3_code 40 = .ok (.iload_n 2, 1) := by decide +kernel
theorem d_Th_sayHas_41 : decode prog_5_method_3_code 41 = .ok (.ishl, 1) := by decide +kernel
theorem d_Th_sayHas_42 : decode prog_5_method_3_code 42 = .ok (.ior, 1) := by decide +kernel
theorem d_Th_sayHas_43 : decode prog_5_method_3_code 43 = .ok (.iastore, 1) := by decide +kernel
theorem d_Th_sayHas_44 : decode prog_5_method_3_code 44 = .ok (.aload_n 0, 1) := by decide +kernel
theorem d_Th_sayHas_45 : decode prog_5_method_3_code 45 = .ok (.iconst 1, 1) := by decide +kernel
theorem d_Th_sayHas_46 : decode prog_5_method_3_code 46 = .ok (.putfield 59, 3) := by decide +kernel
theorem d_Th_sayHas_49 : decode prog_5_method_3_code 49 = .ok (.aload_n 0, 1) := by decide +kernel
theorem d_Th_sayHas_50 : decode prog_5_method_3_code 50 = .ok (.dup, 1) := by decide +kernel
theorem d_Th_sayHas_51 : decode prog_5_method_3_code 51 = .ok (.getfield 63, 3) := by decide +kernel
theorem d_Th_sayHas_54 : decode prog_5_method_3_code 54 = .ok (.iconst 1, 1) := by decide +kernel
theorem d_Th_sayHas_55 : decode prog_5_method_3_code 55 = .ok (.iadd, 1) := by decide +kernel
theorem d_Th_sayHas_56 : decode prog_5_method_3_code 56 = .ok (.putfield 63, 3) := by decide +kernel
theorem d_Th_sayHas_59 : decode prog_5_method_3_code 59 = .ok (.aload_n 0, 1) := by decide +kernel
theorem d_Th_sayHas_60 : decode prog_5_method_3_code 60 = .ok (.getfield 63, 3) := by decide +kernel
theorem d_Th_sayHas_63 : decode prog_5_method_3_code 63 = .ok (.ireturn, 1) := by decide +kernel
theorem d_Th_clear_0 : decode prog_5_method_9_code 0 = .ok (.iconst 0, 1) := by decide +kernel
theorem d_Th_clear_1 : decode prog_5_method_9_code 1 = .ok (.istore_n 1, 1) := by decide +kernel
theorem d_Th_clear_2 : decode prog_5_method_9_code 2 = .ok (.iload_n 1, 1) := by decide +kernel
theorem d_Th_clear_3 : decode prog_5_method_9_code 3 = .ok (.bipush 80, 2) := by decide +kernel
theorem d_Th_clear_5 : decode prog_5_method_9_code 5 = .ok (.if_icmp .ge 18, 3) := by decide +kernel
theorem d_Th_clear_8 : decode prog_5_method_9_code 8 = .ok (.aload_n 0, 1) := by decide +kernel
theorem d_Th_clear_9 : decode prog_5_method_9_code 9 = .ok (.getfield 9, 3) := by decide +kernel
theorem d_Th_clear_12 : decode prog_5_method_9_code 12 = .ok (.iload_n 1, 1) := by decide +kernel
theorem d_Th_clear_13 : decode prog_5_method_9_code 13 = .ok (.ldc2_w 105, 3) := by decide +kernel
theorem d_Th_clear_16 : decode prog_5_method_9_code 16 = .ok (.lastore, 1) := by decide +kernel
theorem d_Th_clear_17 : decode prog_5_method_9_code 17 = .ok (.iinc 1 1, 3) := by decide +kernel
theorem d_Th_clear_20 : decode prog_5_method_9_code 20 = .ok (.goto (-18), 3) := by decide +kernel
theorem d_Th_clear_23 : decode prog_5_method_9_code 23 = .ok (.iconst 0, 1) := by decide +kernel
theorem d_Th_clear_24 : decode prog_5_method_9_code 24 = .ok (.istore_n 1, 1) := by decide +kernel
theorem d_Th_clear_25 : decode prog_5_method_9_code 25 = .ok (.iload_n 1, 1) := by decide +kernel
theorem d_Th_clear_26 : decode prog_5_method_9_code 26 = .ok (.bipush 25, 2) := by decide +kernel
theorem d_Th_clear_28 : decode prog_5_method_9_code 28 = .ok (.if_icmp .ge 16, 3) := by decide +kernel
theorem d_Th_clear_31 : decode prog_5_method_9_code 31 = .ok (.aload_n 0, 1) := by decide +kernel
theorem d_Th_clear_32 : decode prog_5_method_9_code 32 = .ok (.getfield 15, 3) := by decide +kernel
theorem d_Th_clear_35 : decode prog_5_method_9_code 35 = .ok (.iload_n 1, 1) := by decide +kernel
theorem d_Th_clear_36 : decode prog_5_method_9_code 36 = .ok (.iconst 0, 1) := by decide +kernel
theorem d_Th_clear_37 : decode prog_5_method_9_code 37 = .ok (.iastore, 1) := by decide +kernel
theorem d_Th_clear_38 : decode prog_5_method_9_code 38 = .ok (.iinc 1 1, 3) := by decide +kernel
theorem d_Th_clear_41 : decode prog_5_method_9_code 41 = .ok (.goto (-16), 3) := by decide +kernel
theorem d_Th_clear_44 : decode prog_5_method_9_code 44 = .ok (.aload_n 0, 1) := by decide +kernel
theorem d_Th_clear_45 : decode prog_5_method_9_code 45 = .ok (.iconst 0, 1) := by decide +kernel
theorem d_Th_clear_46 : decode prog_5_method_9_code 46 = .ok (.putfield 45, 3) := by decide +kernel
theorem d_Th_clear_49 : decode prog_5_method_9_code 49 = .ok (.aload_n 0, 1) := by decide +kernel
theorem d_Th_clear_50 : decode prog_5_method_9_code 50 = .ok (.iconst 0, 1) := by decide +kernel
theorem d_Th_clear_51 : decode prog_5_method_9_code 51 = .ok (.putfield 63, 3) := by decide +kernel
theorem d_Th_clear_54 : decode prog_5_method_9_code 54 = .ok (.aload_n 0, 1) := by decide +kernel
theorem d_Th_clear_55 : decode prog_5_method_9_code 55 = .ok (.iconst 1, 1) := by decide +kernel
theorem d_Th_clear_56 : decode prog_5_method_9_code 56 = .ok (.putfield 59, 3) := by decide +kernel
theorem d_Th_clear_59 : decode prog_5_method_9_code 59 = .ok (.return_, 1) := by decide +kernel
theorem d_Th_forgetAll_0 : decode prog_5_method_4_code 0 = .ok (.aload_n 0, 1) := by decide +kernel
theorem d_Th_forgetAll_1 : decode prog_5_method_4_code 1 = .ok (.getfield 45, 3) := by decide +kernel
theorem d_Th_forgetAll_4 : decode prog_5_method_4_code 4 = .ok (.aload_n 0, 1) := by decide +kernel
theorem d_Th_forgetAll_5 : decode prog_5_method_4_code 5 = .ok (.getfield 63, 3) := by decide +kernel
theorem d_Th_forgetAll_8 : decode prog_5_method_4_code 8 = .ok (.iadd, 1) := by decide +kernel
theorem d_Th_forgetAll_9 : decode prog_5_method_4_code 9 = .ok (.istore_n 1, 1) := by decide +kernel
theorem d_Th_forgetAll_10 : decode prog_5_method_4_code 10 = .ok (.aload_n 0, 1) := by decide +kernel
theorem d_Th_forgetAll_11 : decode prog_5_method_4_code 11 = .ok (.invokevirtual 42, 3) := by decide +kernel
theorem d_Th_forgetAll_14 : decode prog_5_method_4_code 14 = .ok (.iload_n 1, 1) := by decide +kernel
theorem d_Th_forgetAll_15 : decode prog_5_method_4_code 15 = .ok (.ireturn, 1) := by decide +kernel
theorem d_Th_sortLinks_0 : decode prog_5_method_10_code 0 = .ok (.iconst 0, 1) := by decide +kernel
theorem d_Th_sortLinks_1 : decode prog_5_method_10_code 1 = .ok (.istore_n 1, 1) := by decide +kernel
theorem d_Th_sortLinks_2 : decode prog_5_method_10_code 2 = .ok (.iload_n 1, 1) := by decide +kernel
theorem d_Th_sortLinks_3 : decode prog_5_method_10_code 3 = .ok (.bipush 25, 2) := by decide +kernel
theorem d_Th_sortLinks_5 : decode prog_5_method_10_code 5 = .ok (.if_icmp .ge 64, 3) := by decide +kernel
theorem d_Th_sortLinks_8 : decode prog_5_method_10_code 8 = .ok (.aload_n 0, 1) := by decide +kernel
theorem d_Th_sortLinks_9 : decode prog_5_method_10_code 9 = .ok (.getfield 19, 3) := by decide +kernel
theorem d_Th_sortLinks_12 : decode prog_5_method_10_code 12 = .ok (.iload_n 1, 1) := by decide +kernel
theorem d_Th_sortLinks_13 : decode prog_5_method_10_code 13 = .ok (.iconst 0, 1) := by decide +kernel
theorem d_Th_sortLinks_14 : decode prog_5_method_10_code 14 = .ok (.iastore, 1) := by decide +kernel
theorem d_Th_sortLinks_15 : decode prog_5_method_10_code 15 = .ok (.iconst 0, 1) := by decide +kernel
theorem d_Th_sortLinks_16 : decode prog_5_method_10_code 16 = .ok (.istore_n 2, 1) := by decide +kernel
theorem d_Th_sortLinks_17 : decode prog_5_method_10_code 17 = .ok (.iload_n 2, 1) := by decide +kernel
theorem d_Th_sortLinks_18 : decode prog_5_method_10_code 18 = .ok (.iconst 4, 1) := by decide +kernel
theorem d_Th_sortLinks_19 : decode prog_5_method_10_code 19 = .ok (.if_icmp .ge 44, 3) := by decide +kernel
theorem d_Th_sortLinks_22 : decode prog_5_method_10_code 22 = .ok (.aload_n 0, 1) := by decide +kernel
theorem d_Th_sortLinks_23 : decode prog_5_method_10_code 23 = .ok (.getfield 19, 3) := by decide +kernel
theorem d_Th_sortLinks_26 : decode prog_5_method_10_code 26 = .ok (.iload_n 1, 1) := by decide +kernel
theorem d_Th_sortLinks_27 : decode prog_5_method_10_code 27 = .ok (.dup2, 1) := by decide +kernel
theorem d_Th_sortLinks_28 : decode prog_5_method_10_code 28 = .ok (.iaload, 1) := by decide +kernel
theorem d_Th_sortLinks_29 : decode prog_5_method_10_code 29 = .ok (.aload_n 0, 1) := by decide +kernel
theorem d_Th_sortLinks_30 : decode prog_5_method_10_code 30 = .ok (.getfield 15, 3) := by decide +kernel
theorem d_Th_sortLinks_33 : decode prog_5_method_10_code 33 = .ok (.iload_n 1, 1) := by decide +kernel
theorem d_Th_sortLinks_34 : decode prog_5_method_10_code 34 = .ok (.iaload, 1) := by decide +kernel
theorem d_Th_sortLinks_35 : decode prog_5_method_10_code 35 = .ok (.i2l, 1) := by decide +kernel
theorem d_Th_sortLinks_36 : decode prog_5_method_10_code 36 = .ok (.iload_n 2, 1) := by decide +kernel
theorem d_Th_sortLinks_37 : decode prog_5_method_10_code 37 = .ok (.invokestatic 107, 3) := by decide +kernel
theorem d_Th_sortLinks_40 : decode prog_5_method_10_code 40 = .ok (.ifCond .eq 14, 3) := by decide +kernel
theorem d_Th_sortLinks_43 : decode prog_5_method_10_code 43 = .ok (.aload_n 0, 1) := by decide +kernel
theorem d_Th_sortLinks_44 : decode prog_5_method_10_code 44 = .ok (.getfield 38, 3) := by decide +kernel
theorem d_Th_sortLinks_47 : decode prog_5_method_10_code 47 = .ok (.iload_n 2, 1) := by decide +kernel
theorem d_Th_sortLinks_48 : decode prog_5_method_10_code 48 = .ok (.invokevirtual 111, 3) := by decide +kernel
theorem d_Th_sortLinks_51 : decode prog_5_method_10_code 51 = .ok (.goto 4, 3) := by decide +kernel
theorem d_Th_sortLinks_54 : decode prog_5_method_10_code 54 = .ok (.iconst 0, 1) := by decide +kernel
theorem d_Th_sortLinks_55 : decode prog_5_method_10_code 55 = .ok (.ior, 1) := by decide +kernel
theorem d_Th_sortLinks_56 : decode prog_5_method_10_code 56 = .ok (.iastore, 1) := by decide +kernel
theorem d_Th_sortLinks_57 : decode prog_5_method_10_code 57 = .ok (.iinc 2 1, 3) := by decide +kernel
theorem d_Th_sortLinks_60 : decode prog_5_method_10_code 60 = .ok (.goto (-43), 3) := by decide +kernel
theorem d_Th_sortLinks_63 : decode prog_5_method_10_code 63 = .ok (.iinc 1 1, 3) := by decide +kernel
theorem d_Th_sortLinks_66 : decode prog_5_method_10_code 66 = .ok (.goto (-64), 3) := by decide +kernel
theorem d_Th_sortLinks_69 : decode prog_5_method_10_code 69 = .ok (.return_, 1) := by decide +kernel
theorem d_Th_seeingThemselves_0 : decode prog_5_method_12_code 0 = .ok (.lload_n 1, 1) := by decide +kernel
theorem d_Th_seeingThemselves_1 : decode prog_5_method_12_code 1 = .ok (.lstore 5, 2) := by decide +kernel
theorem d_Th_seeingThemselves_3 : decode prog_5_method_12_code 3 = .ok (.iconst 0, 1) := by decide +kernel
theorem d_Th_seeingThemselves_4 : decode prog_5_method_12_code 4 = .ok (.istore 7, 2) := by decide +kernel
theorem d_Th_seeingThemselves_6 : decode prog_5_method_12_code 6 = .ok (.iload 7, 2) := by decide +kernel
theorem d_Th_seeingThemselves_8 : decode prog_5_method_12_code 8 = .ok (.bipush 10, 2) := by decide +kernel
theorem d_Th_seeingThemselves_10 : decode prog_5_method_12_code 10 = .ok (.if_icmp .ge 58, 3) := by decide +kernel
theorem d_Th_seeingThemselves_13 : decode prog_5_method_12_code 13 = .ok (.lload 5, 2) := by decide +kernel
theorem d_Th_seeingThemselves_15 : decode prog_5_method_12_code 15 = .ok (.lconst 0, 1) := by decide +kernel
theorem d_Th_seeingThemselves_16 : decode prog_5_method_12_code 16 = .ok (.lcmp, 1) := by decide +kernel
theorem d_Th_seeingThemselves_17 : decode prog_5_method_12_code 17 = .ok (.ifCond .eq 51, 3) := by decide +kernel
theorem d_Th_seeingThemselves_20 : decode prog_5_method_12_code 20 = .ok (.iload_n 3, 1) := by decide +kernel
theorem d_Th_seeingThemselves_21 : decode prog_5_method_12_code 21 = .ok (.i2l, 1) := by decide +kernel
theorem d_Th_seeingThemselves_22 : decode prog_5_method_12_code 22 = .ok (.iload 7, 2) := by decide +kernel
theorem d_Th_seeingThemselves_24 : decode prog_5_method_12_code 24 = .ok (.invokestatic 107, 3) := by decide +kernel
theorem d_Th_seeingThemselves_27 : decode prog_5_method_12_code 27 = .ok (.ifCond .eq 35, 3) := by decide +kernel
theorem d_Th_seeingThemselves_30 : decode prog_5_method_12_code 30 = .ok (.lload 5, 2) := by decide +kernel
theorem d_Th_seeingThemselves_32 : decode prog_5_method_12_code 32 = .ok (.aload_n 0, 1) := by decide +kernel
theorem d_Th_seeingThemselves_33 : decode prog_5_method_12_code 33 = .ok (.getfield 34, 3) := by decide +kernel
theorem d_Th_seeingThemselves_36 : decode prog_5_method_12_code 36 = .ok (.iload 7, 2) := by decide +kernel
theorem d_Th_seeingThemselves_38 : decode prog_5_method_12_code 38 = .ok (.iload 4, 2) := by decide +kernel
theorem d_Th_seeingThemselves_40 : decode prog_5_method_12_code 40 = .ok (.invokevirtual 130, 3) := by decide +kernel
theorem d_Th_seeingThemselves_43 : decode prog_5_method_12_code 43 = .ok (.aload_n 0, 1) := by decide +kernel
theorem d_Th_seeingThemselves_44 : decode prog_5_method_12_code 44 = .ok (.getfield 34, 3) := by decide +kernel
theorem d_Th_seeingThemselves_47 : decode prog_5_method_12_code 47 = .ok (.iload 7, 2) := by decide +kernel
theorem d_Th_seeingThemselves_49 : decode prog_5_method_12_code 49 = .ok (.iload 4, 2) := by decide +kernel
theorem d_Th_seeingThemselves_51 : decode prog_5_method_12_code 51 = .ok (.invokevirtual 133, 3) := by decide +kernel
theorem d_Th_seeingThemselves_54 : decode prog_5_method_12_code 54 = .ok (.ldc2_w 105, 3) := by decide +kernel
theorem d_Th_seeingThemselves_57 : decode prog_5_method_12_code 57 = .ok (.lxor, 1) := by decide +kernel
theorem d_Th_seeingThemselves_58 : decode prog_5_method_12_code 58 = .ok (.lor, 1) := by decide +kernel
theorem d_Th_seeingThemselves_59 : decode prog_5_method_12_code 59 = .ok (.land, 1) := by decide +kernel
theorem d_Th_seeingThemselves_60 : decode prog_5_method_12_code 60 = .ok (.lstore 5, 2) := by decide +kernel
theorem d_Th_seeingThemselves_62 : decode prog_5_method_12_code 62 = .ok (.iinc 7 1, 3) := by decide +kernel
theorem d_Th_seeingThemselves_65 : decode prog_5_method_12_code 65 = .ok (.goto (-59), 3) := by decide +kernel
theorem d_Th_seeingThemselves_68 : decode prog_5_method_12_code 68 = .ok (.lload 5, 2) := by decide +kernel
theorem d_Th_seeingThemselves_70 : decode prog_5_method_12_code 70 = .ok (.lreturn, 1) := by decide +kernel
theorem d_Th_begin_0 : decode prog_5_method_11_code 0 = .ok (.aload_n 0, 1) := by decide +kernel
theorem d_Th_begin_1 : decode prog_5_method_11_code 1 = .ok (.aload_n 0, 1) := by decide +kernel
theorem d_Th_begin_2 : decode prog_5_method_11_code 2 = .ok (.getfield 34, 3) := by decide +kernel
theorem d_Th_begin_5 : decode prog_5_method_11_code 5 = .ok (.invokevirtual 114, 3) := by decide +kernel
theorem d_Th_begin_8 : decode prog_5_method_11_code 8 = .ok (.bipush 16, 2) := by decide +kernel
theorem d_Th_begin_10 : decode prog_5_method_11_code 10 = .ok (.invokestatic 117, 3) := by decide +kernel
theorem d_Th_begin_13 : decode prog_5_method_11_code 13 = .ok (.putfield 102, 3) := by decide +kernel
theorem d_Th_begin_16 : decode prog_5_method_11_code 16 = .ok (.iconst 0, 1) := by decide +kernel
theorem d_Th_begin_17 : decode prog_5_method_11_code 17 = .ok (.istore_n 1, 1) := by decide +kernel
theorem d_Th_begin_18 : decode prog_5_method_11_code 18 = .ok (.iload_n 1, 1) := by decide +kernel
theorem d_Th_begin_19 : decode prog_5_method_11_code 19 = .ok (.iconst 5, 1) := by decide +kernel
theorem d_Th_begin_20 : decode prog_5_method_11_code 20 = .ok (.if_icmp .ge 77, 3) := by decide +kernel
theorem d_Th_begin_23 : decode prog_5_method_11_code 23 = .ok (.aload_n 0, 1) := by decide +kernel
theorem d_Th_begin_24 : decode prog_5_method_11_code 24 = .ok (.getfield 19, 3) := by decide +kernel
theorem d_Th_begin_27 : decode prog_5_method_11_code 27 = .ok (.iload_n 1, 1) := by decide +kernel
theorem d_Th_begin_28 : decode prog_5_method_11_code 28 = .ok (.iconst 5, 1) := by decide +kernel
theorem d_Th_begin_29 : decode prog_5_method_11_code 29 = .ok (.imul, 1) := by decide +kernel
theorem d_Th_begin_30 : decode prog_5_method_11_code 30 = .ok (.iload_n 1, 1) := by decide +kernel
theorem d_Th_begin_31 : decode prog_5_method_11_code 31 = .ok (.iadd, 1) := by decide +kernel
theorem d_Th_begin_32 : decode prog_5_method_11_code 32 = .ok (.iaload, 1) := by decide +kernel
theorem d_Th_begin_33 : decode prog_5_method_11_code 33 = .ok (.istore_n 2, 1) := by decide +kernel
theorem d_Th_begin_34 : decode prog_5_method_11_code 34 = .ok (.iconst 0, 1) := by decide +kernel
theorem d_Th_begin_35 : decode prog_5_method_11_code 35 = .ok (.istore_n 3, 1) := by decide +kernel
theorem d_Th_begin_36 : decode prog_5_method_11_code 36 = .ok (.iload_n 3, 1) := by decide +kernel
theorem d_Th_begin_37 : decode prog_5_method_11_code 37 = .ok (.aload_n 0, 1) := by decide +kernel
theorem d_Th_begin_38 : decode prog_5_method_11_code 38 = .ok (.getfield 102, 3) := by decide +kernel
theorem d_Th_begin_41 : decode prog_5_method_11_code 41 = .ok (.if_icmp .ge 50, 3) := by decide +kernel
theorem d_Th_begin_44 : decode prog_5_method_11_code 44 = .ok (.aload_n 0, 1) := by decide +kernel
theorem d_Th_begin_45 : decode prog_5_method_11_code 45 = .ok (.getfield 38, 3) := by decide +kernel
theorem d_Th_begin_48 : decode prog_5_method_11_code 48 = .ok (.iload_n 3, 1) := by decide +kernel
theorem d_Th_begin_49 : decode prog_5_method_11_code 49 = .ok (.invokevirtual 123, 3) := by decide +kernel
theorem d_Th_begin_52 : decode prog_5_method_11_code 52 = .ok (.aload_n 0, 1) := by decide +kernel
theorem d_Th_begin_53 : decode prog_5_method_11_code 53 = .ok (.getfield 9, 3) := by decide +kernel
theorem d_Th_begin_56 : decode prog_5_method_11_code 56 = .ok (.iload_n 1, 1) := by decide +kernel
theorem d_Th_begin_57 : decode prog_5_method_11_code 57 = .ok (.bipush 16, 2) := by decide +kernel
theorem d_Th_begin_59 : decode prog_5_method_11_code 59 = .ok (.imul, 1) := by decide +kernel
theorem d_Th_begin_60 : decode prog_5_method_11_code 60 = .ok (.iload_n 3, 1) := by decide +kernel
theorem d_Th_begin_61 : decode prog_5_method_11_code 61 = .ok (.iadd, 1) := by decide +kernel
theorem d_Th_begin_62 : decode prog_5_method_11_code 62 = .ok (.laload, 1) := by decide +kernel
theorem d_Th_begin_63 : decode prog_5_method_11_code 63 = .ok (.land, 1) := by decide +kernel
theorem d_Th_begin_64 : decode prog_5_method_11_code 64 = .ok (.lstore 4, 2) := by decide +kernel
theorem d_Th_begin_66 : decode prog_5_method_11_code 66 = .ok (.aload_n 0, 1) := by decide +kernel
theorem d_Th_begin_67 : decode prog_5_method_11_code 67 = .ok (.getfield 22, 3) := by decide +kernel
theorem d_Th_begin_70 : decode prog_5_method_11_code 70 = .ok (.iload_n 1, 1) := by decide +kernel
theorem d_Th_begin_71 : decode prog_5_method_11_code 71 = .ok (.bipush 16, 2) := by decide +kernel
theorem d_Th_begin_73 : decode prog_5_method_11_code 73 = .ok (.imul, 1) := by decide +kernel
theorem d_Th_begin_74 : decode prog_5_method_11_code 74 = .ok (.iload_n 3, 1) := by decide +kernel
theorem d_Th_begin_75 : decode prog_5_method_11_code 75 = .ok (.iadd, 1) := by decide +kernel
theorem d_Th_begin_76 : decode prog_5_method_11_code 76 = .ok (.aload_n 0, 1) := by decide +kernel
theorem d_Th_begin_77 : decode prog_5_method_11_code 77 = .ok (.lload 4, 2) := by decide +kernel
theorem d_Th_begin_79 : decode prog_5_method_11_code 79 = .ok (.iload_n 2, 1) := by decide +kernel
theorem d_Th_begin_80 : decode prog_5_method_11_code 80 = .ok (.iload_n 3, 1) := by decide +kernel
theorem d_Th_begin_81 : decode prog_5_method_11_code 81 = .ok (.invokevirtual 126, 3) := by decide +kernel
theorem d_Th_begin_84 : decode prog_5_method_11_code 84 = .ok (.lastore, 1) := by decide +kernel
theorem d_Th_begin_85 : decode prog_5_method_11_code 85 = .ok (.iinc 3 1, 3) := by decide +kernel
theorem d_Th_begin_88 : decode prog_5_method_11_code 88 = .ok (.goto (-52), 3) := by decide +kernel
theorem d_Th_begin_91 : decode prog_5_method_11_code 91 = .ok (.iinc 1 1, 3) := by decide +kernel
theorem d_Th_begin_94 : decode prog_5_method_11_code 94 = .ok (.goto (-76), 3) := by decide +kernel
theorem d_Th_begin_97 : decode prog_5_method_11_code 97 = .ok (.return_, 1) := by decide +kernel
theorem d_Th_countLeft_0 : decode prog_5_method_13_code 0 = .ok (.iload_n 1, 1) := by decide +kernel
theorem d_Th_countLeft_1 : decode prog_5_method_13_code 1 = .ok (.bipush 80, 2) := by decide +kernel
theorem d_Th_countLeft_3 : decode prog_5_method_13_code 3 = .ok (.imul, 1) := by decide +kernel
theorem d_Th_countLeft_4 : decode prog_5_method_13_code 4 = .ok (.iload_n 2, 1) := by decide +kernel
theorem d_Th_countLeft_5 : decode prog_5_method_13_code 5 = .ok (.bipush 16, 2) := by decide +kernel
theorem d_Th_countLeft_7 : decode prog_5_method_13_code 7 = .ok (.imul, 1) := by decide +kernel
theorem d_Th_countLeft_8 : decode prog_5_method_13_code 8 = .ok (.iadd, 1) := by decide +kernel
theorem d_Th_countLeft_9 : decode prog_5_method_13_code 9 = .ok (.istore_n 3, 1) := by decide +kernel
theorem d_Th_countLeft_10 : decode prog_5_method_13_code 10 = .ok (.iconst 0, 1) := by decide +kernel
theorem d_Th_countLeft_11 : decode prog_5_method_13_code 11 = .ok (.istore 4, 2) := by decide +kernel
theorem d_Th_countLeft_13 : decode prog_5_method_13_code 13 = .ok (.iconst 0, 1) := by decide +kernel
theorem d_Th_countLeft_14 : decode prog_5_method_13_code 14 = .ok (.istore 5, 2) := by decide +kernel
theorem d_Th_countLeft_16 : decode prog_5_method_13_code 16 = .ok (.iload 5, 2) := by decide +kernel
theorem d_Th_countLeft_18 : decode prog_5_method_13_code 18 = .ok (.aload_n 0, 1) := by decide +kernel
theorem d_Th_countLeft_19 : decode prog_5_method_13_code 19 = .ok (.getfield 102, 3) := by decide +kernel
theorem d_Th_countLeft_22 : decode prog_5_method_13_code 22 = .ok (.if_icmp .ge 26, 3) := by decide +kernel
theorem d_Th_countLeft_25 : decode prog_5_method_13_code 25 = .ok (.iload 4, 2) := by decide +kernel
theorem d_Th_countLeft_27 : decode prog_5_method_13_code 27 = .ok (.aload_n 0, 1) := by decide +kernel
theorem d_Th_countLeft_28 : decode prog_5_method_13_code 28 = .ok (.getfield 22, 3) := by decide +kernel
theorem d_Th_countLeft_31 : decode prog_5_method_13_code 31 = .ok (.iload_n 3, 1) := by decide +kernel
theorem d_Th_countLeft_32 : decode prog_5_method_13_code 32 = .ok (.iload 5, 2) := by decide +kernel
theorem d_Th_countLeft_34 : decode prog_5_method_13_code 34 = .ok (.iadd, 1) := by decide +kernel
theorem d_Th_countLeft_35 : decode prog_5_method_13_code 35 = .ok (.laload, 1) := by decide +kernel
theorem d_Th_countLeft_36 : decode prog_5_method_13_code 36 = .ok (.invokestatic 136, 3) := by decide +kernel
theorem d_Th_countLeft_39 : decode prog_5_method_13_code 39 = .ok (.iadd, 1) := by decide +kernel
theorem d_Th_countLeft_40 : decode prog_5_method_13_code 40 = .ok (.istore 4, 2) := by decide +kernel
theorem d_Th_countLeft_42 : decode prog_5_method_13_code 42 = .ok (.iinc 5 1, 3) := by decide +kernel
theorem d_Th_countLeft_45 : decode prog_5_method_13_code 45 = .ok (.goto (-29), 3) := by decide +kernel
theorem d_Th_countLeft_48 : decode prog_5_method_13_code 48 = .ok (.iload 4, 2) := by decide +kernel
theorem d_Th_countLeft_50 : decode prog_5_method_13_code 50 = .ok (.ireturn, 1) := by decide +kernel
theorem d_Th_mostBound_0 : decode prog_5_method_15_code 0 = .ok (.iconst 0, 1) := by decide +kernel
theorem d_Th_mostBound_1 : decode prog_5_method_15_code 1 = .ok (.istore_n 3, 1) := by decide +kernel
theorem d_Th_mostBound_2 : decode prog_5_method_15_code 2 = .ok (.sipush 1025, 3) := by decide +kernel
theorem d_Th_mostBound_5 : decode prog_5_method_15_code 5 = .ok (.istore 4, 2) := by decide +kernel
theorem d_Th_mostBound_7 : decode prog_5_method_15_code 7 = .ok (.iconst 0, 1) := by decide +kernel
theorem d_Th_mostBound_8 : decode prog_5_method_15_code 8 = .ok (.istore 5, 2) := by decide +kernel
theorem d_Th_mostBound_10 : decode prog_5_method_15_code 10 = .ok (.iload 5, 2) := by decide +kernel
theorem d_Th_mostBound_12 : decode prog_5_method_15_code 12 = .ok (.iconst 5, 1) := by decide +kernel
theorem d_Th_mostBound_13 : decode prog_5_method_15_code 13 = .ok (.if_icmp .ge 47, 3) := by decide +kernel
theorem d_Th_mostBound_16 : decode prog_5_method_15_code 16 = .ok (.iload_n 2, 1) := by decide +kernel
theorem d_Th_mostBound_17 : decode prog_5_method_15_code 17 = .ok (.i2l, 1) := by decide +kernel
theorem d_Th_mostBound_18 : decode prog_5_method_15_code 18 = .ok (.iload 5, 2) := by decide +kernel
theorem d_Th_mostBound_20 : decode prog_5_method_15_code 20 = .ok (.invokestatic 107, 3) := by decide +kernel
theorem d_Th_mostBound_23 : decode prog_5_method_15_code 23 = .ok (.ifCond .eq 13, 3) := by decide +kernel
theorem d_Th_mostBound_26 : decode prog_5_method_15_code 26 = .ok (.aload_n 0, 1) := by decide +kernel
theorem d_Th_mostBound_27 : decode prog_5_method_15_code 27 = .ok (.iload_n 1, 1) := by decide +kernel
theorem d_Th_mostBound_28 : decode prog_5_method_15_code 28 = .ok (.iload 5, 2) := by decide +kernel
theorem d_Th_mostBound_30 : decode prog_5_method_15_code 30 = .ok (.invokevirtual 157, 3) := by decide +kernel
theorem d_Th_mostBound_33 : decode prog_5_method_15_code 33 = .ok (.goto 5, 3) := by decide +kernel
theorem d_Th_mostBound_36 : decode prog_5_method_15_code 36 = .ok (.iload 4, 2) := by decide +kernel
theorem d_Th_mostBound_38 : decode prog_5_method_15_code 38 = .ok (.istore 6, 2) := by decide +kernel
theorem d_Th_mostBound_40 : decode prog_5_method_15_code 40 = .ok (.iload 6, 2) := by decide +kernel
theorem d_Th_mostBound_42 : decode prog_5_method_15_code 42 = .ok (.iload 4, 2) := by decide +kernel
theorem d_Th_mostBound_44 : decode prog_5_method_15_code 44 = .ok (.if_icmp .ge 10, 3) := by decide +kernel
theorem d_Th_mostBound_47 : decode prog_5_method_15_code 47 = .ok (.iload 5, 2) := by decide +kernel
theorem d_Th_mostBound_49 : decode prog_5_method_15_code 49 = .ok (.istore_n 3, 1) := by decide +kernel
theorem d_Th_mostBound_50 : decode prog_5_method_15_code 50 = .ok (.iload 6, 2) := by decide +kernel
theorem d_Th_mostBound_52 : decode prog_5_method_15_code 52 = .ok (.istore 4, 2) := by decide +kernel
theorem d_Th_mostBound_54 : decode prog_5_method_15_code 54 = .ok (.iinc 5 1, 3) := by decide +kernel
theorem d_Th_mostBound_57 : decode prog_5_method_15_code 57 = .ok (.goto (-47), 3) := by decide +kernel
theorem d_Th_mostBound_60 : decode prog_5_method_15_code 60 = .ok (.iload_n 3, 1) := by decide +kernel
theorem d_Th_mostBound_61 : decode prog_5_method_15_code 61 = .ok (.ireturn, 1) := by decide +kernel
theorem d_Th_addDemand_0 : decode prog_5_method_17_code 0 = .ok (.iconst 0, 1) := by decide +kernel
theorem d_Th_addDemand_1 : decode prog_5_method_17_code 1 = .ok (.istore 4, 2) := by decide +kernel
theorem d_Th_addDemand_3 : decode prog_5_method_17_code 3 = .ok (.iload 4, 2) := by decide +kernel
theorem d_Th_addDemand_5 : decode prog_5_method_17_code 5 = .ok (.iload_n 2, 1) := by decide +kernel
theorem d_Th_addDemand_6 : decode prog_5_method_17_code 6 = .ok (.if_icmp .ge 27, 3) := by decide +kernel
theorem d_Th_addDemand_9 : decode prog_5_method_17_code 9 = .ok (.aload_n 0, 1) := by decide +kernel
theorem d_Th_addDemand_10 : decode prog_5_method_17_code 10 = .ok (.getfield 25, 3) := by decide +kernel
theorem d_Th_addDemand_13 : decode prog_5_method_17_code 13 = .ok (.iload_n 1, 1) := by decide +kernel
theorem d_Th_addDemand_14 : decode prog_5_method_17_code 14 = .ok (.iload 4, 2) := by decide +kernel
theorem d_Th_addDemand_16 : decode prog_5_method_17_code 16 = .ok (.iadd, 1) := by decide +kernel
theorem d_Th_addDemand_17 : decode prog_5_method_17_code 17 = .ok (.iaload, 1) := by decide +kernel
theorem d_Th_addDemand_18 : decode prog_5_method_17_code 18 = .ok (.iload_n 3, 1) := by decide +kernel
theorem d_Th_addDemand_19 : decode prog_5_method_17_code 19 = .ok (.iconst (-1), 1) := by decide +kernel
theorem d_Th_addDemand_20 : decode prog_5_method_17_code 20 = .ok (.ixor, 1) := by decide +kernel
theorem d_Th_addDemand_21 : decode prog_5_method_17_code 21 = .ok (.iand, 1) := by decide +kernel
theorem d_Th_addDemand_22 : decode prog_5_method_17_code 22 = .ok (.ifCond .ne 5, 3) := by decide +kernel
theorem d_Th_addDemand_25 : decode prog_5_method_17_code 25 = .ok (.iload_n 2, 1) := by decide +kernel
theorem d_Th_addDemand_26 : decode prog_5_method_17_code 26 = .ok (.ireturn, 1) := by decide +kernel
theorem d_Th_addDemand_27 : decode prog_5_method_17_code 27 = .ok (.iinc 4 1, 3) := by decide +kernel
theorem d_Th_addDemand_30 : decode prog_5_method_17_code 30 = .ok (.goto (-27), 3) := by decide +kernel
theorem d_Th_addDemand_33 : decode prog_5_method_17_code 33 = .ok (.iconst 0, 1) := by decide +kernel
theorem d_Th_addDemand_34 : decode prog_5_method_17_code 34 = .ok (.istore 4, 2) := by decide +kernel
theorem d_Th_addDemand_36 : decode prog_5_method_17_code 36 = .ok (.iconst 0, 1) := by decide +kernel
theorem d_Th_addDemand_37 : decode prog_5_method_17_code 37 = .ok (.istore 5, 2) := by decide +kernel
theorem d_Th_addDemand_39 : decode prog_5_method_17_code 39 = .ok (.iload 5, 2) := by decide +kernel
theorem d_Th_addDemand_41 : decode prog_5_method_17_code 41 = .ok (.iload_n 2, 1) := by decide +kernel
theorem d_Th_addDemand_42 : decode prog_5_method_17_code 42 = .ok (.if_icmp .ge 46, 3) := by decide +kernel
theorem d_Th_addDemand_45 : decode prog_5_method_17_code 45 = .ok (.iload_n 3, 1) := by decide +kernel
theorem d_Th_addDemand_46 : decode prog_5_method_17_code 46 = .ok (.aload_n 0, 1) := by decide +kernel
theorem d_Th_addDemand_47 : decode prog_5_method_17_code 47 = .ok (.getfield 25, 3) := by decide +kernel
theorem d_Th_addDemand_50 : decode prog_5_method_17_code 50 = .ok (.iload_n 1, 1) := by decide +kernel
theorem d_Th_addDemand_51 : decode prog_5_method_17_code 51 = .ok (.iload 5, 2) := by decide +kernel
theorem d_Th_addDemand_53 : decode prog_5_method_17_code 53 = .ok (.iadd, 1) := by decide +kernel
theorem d_Th_addDemand_54 : decode prog_5_method_17_code 54 = .ok (.iaload, 1) := by decide +kernel
theorem d_Th_addDemand_55 : decode prog_5_method_17_code 55 = .ok (.iconst (-1), 1) := by decide +kernel
theorem d_Th_addDemand_56 : decode prog_5_method_17_code 56 = .ok (.ixor, 1) := by decide +kernel
theorem d_Th_addDemand_57 : decode prog_5_method_17_code 57 = .ok (.iand, 1) := by decide +kernel
theorem d_Th_addDemand_58 : decode prog_5_method_17_code 58 = .ok (.ifCond .eq 24, 3) := by decide +kernel
theorem d_Th_addDemand_61 : decode prog_5_method_17_code 61 = .ok (.aload_n 0, 1) := by decide +kernel
theorem d_Th_addDemand_62 : decode prog_5_method_17_code 62 = .ok (.getfield 25, 3) := by decide +kernel
theorem d_Th_addDemand_65 : decode prog_5_method_17_code 65 = .ok (.iload_n 1, 1) := by decide +kernel
theorem d_Th_addDemand_66 : decode prog_5_method_17_code 66 = .ok (.iload 4, 2) := by decide +kernel
theorem d_Th_addDemand_68 : decode prog_5_method_17_code 68 = .ok (.iadd, 1) := by decide +kernel
theorem d_Th_addDemand_69 : decode prog_5_method_17_code 69 = .ok (.aload_n 0, 1) := by decide +kernel
theorem d_Th_addDemand_70 : decode prog_5_method_17_code 70 = .ok (.getfield 25, 3) := by decide +kernel
theorem d_Th_addDemand_73 : decode prog_5_method_17_code 73 = .ok (.iload_n 1, 1) := by decide +kernel
theorem d_Th_addDemand_74 : decode prog_5_method_17_code 74 = .ok (.iload 5, 2) := by decide +kernel
theorem d_Th_addDemand_76 : decode prog_5_method_17_code 76 = .ok (.iadd, 1) := by decide +kernel
theorem d_Th_addDemand_77 : decode prog_5_method_17_code 77 = .ok (.iaload, 1) := by decide +kernel
theorem d_Th_addDemand_78 : decode prog_5_method_17_code 78 = .ok (.iastore, 1) := by decide +kernel
theorem d_Th_addDemand_79 : decode prog_5_method_17_code 79 = .ok (.iinc 4 1, 3) := by decide +kernel
theorem d_Th_addDemand_82 : decode prog_5_method_17_code 82 = .ok (.iinc 5 1, 3) := by decide +kernel
theorem d_Th_addDemand_85 : decode prog_5_method_17_code 85 = .ok (.goto (-46), 3) := by decide +kernel
theorem d_Th_addDemand_88 : decode prog_5_method_17_code 88 = .ok (.aload_n 0, 1) := by decide +kernel
theorem d_Th_addDemand_89 : decode prog_5_method_17_code 89 = .ok (.getfield 25, 3) := by decide +kernel
theorem d_Th_addDemand_92 : decode prog_5_method_17_code 92 = .ok (.iload_n 1, 1) := by decide +kernel
theorem d_Th_addDemand_93 : decode prog_5_method_17_code 93 = .ok (.iload 4, 2) := by decide +kernel
theorem d_Th_addDemand_95 : decode prog_5_method_17_code 95 = .ok (.iadd, 1) := by decide +kernel
theorem d_Th_addDemand_96 : decode prog_5_method_17_code 96 = .ok (.iload_n 3, 1) := by decide +kernel
theorem d_Th_addDemand_97 : decode prog_5_method_17_code 97 = .ok (.iastore, 1) := by decide +kernel
theorem d_Th_addDemand_98 : decode prog_5_method_17_code 98 = .ok (.iload 4, 2) := by decide +kernel
theorem d_Th_addDemand_100 : decode prog_5_method_17_code 100 = .ok (.iconst 1, 1) := by decide +kernel
theorem d_Th_addDemand_101 : decode prog_5_method_17_code 101 = .ok (.iadd, 1) := by decide +kernel
theorem d_Th_addDemand_102 : decode prog_5_method_17_code 102 = .ok (.ireturn, 1) := by decide +kernel
noncomputable def bk_Go_depthOf_0 : List Int32 → List Int64 → tq_S → Option tq_C
  | [x1], [], σ => tq_ob (tq_fI st_Tn_isBelow (0, [x1, 1024], [], σ)) (fun r2 σ3 => if r2 = 0 then some (tq_rt, [(-1)], [], σ3) else tq_gd x1 1024 (some (tq_rt, [(ia σ3 11 x1)], [], σ3)))
  | _, _, _ => none
noncomputable def st_Go_depthOf (c : tq_C) : Option tq_C := if c.1 = 0 then bk_Go_depthOf_0 c.2.1 c.2.2.1 c.2.2.2 else none
set_option maxHeartbeats 40000000 in
set_option maxRecDepth 100000 in
theorem c_Go_depthOf (l : Launch) (dC : Nat → ClassId) (dI : Nat → Nat → Nat) (cI cL cZ : ClassId) (ad : Nat → Nat) (tt : Nat) (sz : Nat) (σ : tq_S) (a1 : Int32) (r : Int32) (σ' : tq_S) (hf : tq_fI st_Go_depthOf (0, [a1], [], σ) = some (r, σ')) : Met l y_Go_depthOf w_Go_depthOf ({ frames := 1, cells := 0, slots := 0, locals := 21 } : Room) (va_Pc [.ref (ad 3), .int a1] (tq_B dC dI cI cL cZ tt (wo cI cL cZ ad σ) sz)) (va_Qi (fun (r' : Int32) (u : tq_S) => r' = r ∧ u = σ') (tq_E dC dI cI cL cZ (wo cI cL cZ ad) (va_A (wo cI cL cZ ad σ) sz)) (va_A (wo cI cL cZ ad σ) sz)) 0 0 (va_A (wo cI cL cZ ad σ) sz) := by
  obtain ⟨n0, h0⟩ := tq_fI_to hf
  refine Met.ofW (cc := prog_3_method_9_code) (maxL := 2) (ret := (some .int)) (by decide) rfl ?_
  intro p e s m args below meth c s₁ B hml hv
  obtain ⟨rfl, hsz, hP, hK, hD0, hZ, hN⟩ := hv
  have hx := B.exec
  have hb := B.bytes
  have hr := B.returns
  have hts : ∀ w ∈ tq_T, w.before _ s = true := fun w h => atoms_spec (ws := w_Go_depthOf) B.pre w (List.mem_cons_of_mem _ h)
  have hown : s.vm.findClass "TableauNodes$GoodTypes" = some m.cls := findClass_of_methodNamed B.named
  have hlocks := B.notSynchronized
  subst hsz
  have hD := hD0.self (sz := s.heap.size)
  have hS : va_S (va_A (wo cI cL cZ ad σ) s.heap.size) s.heap s.heap [] := va_S.rf
  have hA : ∀ q : Nat, s.heap.size ≤ q → va_A (wo cI cL cZ ad σ) s.heap.size q := fun q h => Or.inr h
  generalize va_A (wo cI cL cZ ad σ) s.heap.size = A at hD hS hA hZ ⊢
  have hl := lv_entry ([.ref (ad 3), .int a1]) (n := 2) (Nat.le_of_ble_eq_true rfl)
  rw [lg_entry_eq]
  generalize (lg_sl ([.ref (ad 3), .int a1]) ++ List.replicate (2 - (lg_sl ([.ref (ad 3), .int a1])).length) Slot.unset).toArray = ls at hl ⊢
  have hl : lv_has ls 2 [(0, .ref (ad 3)), (1, .int a1)] := hl
  have key : ∀ n : Nat, (∀ {x1 : Int32} {σ : tq_S} {H : Heap} {locs : List Loc} {ls : Array Slot}, va_P (dC, dI) tq_cl (wo cI cL cZ ad σ) H → va_D A (wo cI cL cZ ad σ) → va_S A s.heap H locs → lv_has ls 2 [(0, .ref (ad 3)), (1, .int x1)] → tq_go st_Go_depthOf n (0, [x1], [], σ) = some (tq_rt, [r], [], σ') → W p l e (headSpec w_Go_depthOf ({ frames := 1, cells := 0, slots := 0, locals := 21 } : Room)).room s m ([.ref (ad 3), .int a1] : List Value).toArray below meth c H locs 0 0 (MQ below (va_Qi (fun (r' : Int32) (u : tq_S) => r' = r ∧ u = σ') (tq_E dC dI cI cL cZ (wo cI cL cZ ad) A) A) ([.ref (ad 3), .int a1] : List Value).toArray s 0 0 A) (F0 m 0 ls [])) := by
    intro n
    induction n with
    | zero => exact fun _ _ _ _ h => by cases h
    | succ n ih =>
      intro x1 σ H locs ls hP hD hS hl h9
      obtain ⟨q9, hg, hn⟩ := tq_go_s h9 (show ¬ (0 : Nat) = tq_rt by decide)
      replace hg : bk_Go_depthOf_0 [x1] [] σ = some q9 := hg
      unfold bk_Go_depthOf_0 at hg
      refine lv_iload_n hx hb d_Go_depthOf_0 rfl (lv_at hl 1 rfl) ?_
      refine lv_sipush (v := 1024) hx hb d_Go_depthOf_1 (by decide) ?_
      obtain ⟨r2, σ3, f1, hg⟩ := tq_ob_s hg
      refine tq_aI (va_runSN (As := [.int x1, .int 1024]) (rest := []) ⟨hx, hb, hml, hown, hts⟩ (c_Tn_isBelow l dC dI cI cL cZ ad tt H.size σ x1 1024  r2 σ3 f1) ⟨va_cnB 2 hts (tq_gC tw_239) rfl rfl rfl (hN _ (List.mem_of_getElem? (i := 6) rfl)) (hts _ tw_1) (by decide +kernel) ⟨Nat.le_of_ble_eq_true rfl, Nat.le_of_ble_eq_true rfl⟩, hts _ tw_238, trivial⟩ ⟨tq_bl, (tq_pr hP hK hD hS hA hZ hN)⟩ rfl rfl hl.1 rfl (lv_room (Nat.le_of_ble_eq_true rfl)) d_Go_depthOf_4 ⟨Nat.zero_le _, Nat.zero_le _⟩) hD hS hA (fun H locs hP hD hS => ?_)
      refine lv_if_eq (tgt := 19) hx hb d_Go_depthOf_7 (by decide) (fun c4 => ?_) (fun c4 => ?_)
      · replace hg := tq_if_t c4 hg
        refine lv_iconst (v := (-1)) hx hb d_Go_depthOf_19 (by decide) ?_
        exact W.iret (v := (-1)) hx hb hr (fun t ht hW => ⟨⟨(-1), σ3, rfl, tq_grI hg hn, by rw [ht]; exact hP, va_K.moved hW.alike hK, hD⟩, hS.F ht⟩) hS.2.2 d_Go_depthOf_20
      · replace hg := tq_if_f c4 hg
        refine lv_aload_n hx hb d_Go_depthOf_10 rfl (lv_at hl 0 rfl) ?_
        refine va_get (D := (dC, dI)) (ci := 3) (v := .ref (ad 21)) (C := "TableauNodes$GoodTypes") (T := F_Go) (N := 15) hx hb hts in_Go hown hK hP 3 rfl rfl 9 (by decide) (hts _ tw_126) (fun _ h9 => h9) rfl d_Go_depthOf_11 ?_
        refine lv_iload_n hx hb d_Go_depthOf_14 rfl (lv_at hl 1 rfl) ?_
        obtain ⟨g5, hg⟩ := tq_gd_s hg
        refine va_iald hx hb hK hP 21 0 rfl rfl g5 d_Go_depthOf_15 ?_
        refine lv_goto (tgt := 20) hx hb d_Go_depthOf_16 (by decide) ?_
        exact W.iret (v := (ia σ3 11 x1)) hx hb hr (fun t ht hW => ⟨⟨(ia σ3 11 x1), σ3, rfl, tq_grI hg hn, by rw [ht]; exact hP, va_K.moved hW.alike hK, hD⟩, hS.F ht⟩) hS.2.2 d_Go_depthOf_20
  exact (key n0) hP hD hS hl h0
noncomputable def bk_Go_version_0 : List Int32 → List Int64 → tq_S → Option tq_C
  | [], [], σ => some (tq_rt, [(σ.2.2 6)], [], σ)
  | _, _, _ => none
noncomputable def st_Go_version (c : tq_C) : Option tq_C := if c.1 = 0 then bk_Go_version_0 c.2.1 c.2.2.1 c.2.2.2 else none
set_option maxHeartbeats 40000000 in
set_option maxRecDepth 100000 in
theorem c_Go_version (l : Launch) (dC : Nat → ClassId) (dI : Nat → Nat → Nat) (cI cL cZ : ClassId) (ad : Nat → Nat) (tt : Nat) (sz : Nat) (σ : tq_S) (r : Int32) (σ' : tq_S) (hf : tq_fI st_Go_version (0, [], [], σ) = some (r, σ')) : Met l y_Go_version w_Go_version ({ frames := 0, cells := 0, slots := 0, locals := 0 } : Room) (va_Pc [.ref (ad 3)] (tq_B dC dI cI cL cZ tt (wo cI cL cZ ad σ) sz)) (va_Qi (fun (r' : Int32) (u : tq_S) => r' = r ∧ u = σ') (tq_E dC dI cI cL cZ (wo cI cL cZ ad) (va_A (wo cI cL cZ ad σ) sz)) (va_A (wo cI cL cZ ad σ) sz)) 0 0 (va_A (wo cI cL cZ ad σ) sz) := by
  obtain ⟨n0, h0⟩ := tq_fI_to hf
  refine Met.ofW (cc := prog_3_method_6_code) (maxL := 1) (ret := (some .int)) (by decide) rfl ?_
  intro p e s m args below meth c s₁ B hml hv
  obtain ⟨rfl, hsz, hP, hK, hD0, hZ, hN⟩ := hv
  have hx := B.exec
  have hb := B.bytes
  have hr := B.returns
  have hts : ∀ w ∈ tq_T, w.before _ s = true := fun w h => atoms_spec (ws := w_Go_version) B.pre w (List.mem_cons_of_mem _ h)
  have hown : s.vm.findClass "TableauNodes$GoodTypes" = some m.cls := findClass_of_methodNamed B.named
  have hlocks := B.notSynchronized
  subst hsz
  have hD := hD0.self (sz := s.heap.size)
  have hS : va_S (va_A (wo cI cL cZ ad σ) s.heap.size) s.heap s.heap [] := va_S.rf
  have hA : ∀ q : Nat, s.heap.size ≤ q → va_A (wo cI cL cZ ad σ) s.heap.size q := fun q h => Or.inr h
  generalize va_A (wo cI cL cZ ad σ) s.heap.size = A at hD hS hA hZ ⊢
  have hl := lv_entry ([.ref (ad 3)]) (n := 1) (Nat.le_of_ble_eq_true rfl)
  rw [lg_entry_eq]
  generalize (lg_sl ([.ref (ad 3)]) ++ List.replicate (1 - (lg_sl ([.ref (ad 3)])).length) Slot.unset).toArray = ls at hl ⊢
  have hl : lv_has ls 1 [(0, .ref (ad 3))] := hl
  have key : ∀ n : Nat, (∀ {σ : tq_S} {H : Heap} {locs : List Loc} {ls : Array Slot}, va_P (dC, dI) tq_cl (wo cI cL cZ ad σ) H → va_D A (wo cI cL cZ ad σ) → va_S A s.heap H locs → lv_has ls 1 [(0, .ref (ad 3))] → tq_go st_Go_version n (0, [], [], σ) = some (tq_rt, [r], [], σ') → W p l e (headSpec w_Go_version ({ frames := 0, cells := 0, slots := 0, locals := 0 } : Room)).room s m ([.ref (ad 3)] : List Value).toArray below meth c H locs 0 0 (MQ below (va_Qi (fun (r' : Int32) (u : tq_S) => r' = r ∧ u = σ') (tq_E dC dI cI cL cZ (wo cI cL cZ ad) A) A) ([.ref (ad 3)] : List Value).toArray s 0 0 A) (F0 m 0 ls [])) := by
    intro n
    induction n with
    | zero => exact fun _ _ _ _ h => by cases h
    | succ n ih =>
      intro  σ H locs ls hP hD hS hl h9
      obtain ⟨q9, hg, hn⟩ := tq_go_s h9 (show ¬ (0 : Nat) = tq_rt by decide)
      replace hg : bk_Go_version_0 [] [] σ = some q9 := hg
      unfold bk_Go_version_0 at hg
      refine lv_aload_n hx hb d_Go_version_0 rfl (lv_at hl 0 rfl) ?_
      refine va_get (D := (dC, dI)) (ci := 3) (v := .int (σ.2.2 6)) (C := "TableauNodes$GoodTypes") (T := F_Go) (N := 15) hx hb hts in_Go hown hK hP 3 rfl rfl 14 (by decide) (hts _ tw_131) (fun _ h9 => h9) rfl d_Go_version_1 ?_
      exact W.iret (v := (σ.2.2 6)) hx hb hr (fun t ht hW => ⟨⟨(σ.2.2 6), σ, rfl, tq_grI hg hn, by rw [ht]; exact hP, va_K.moved hW.alike hK, hD⟩, hS.F ht⟩) hS.2.2 d_Go_version_4
  exact (key n0) hP hD hS hl h0
noncomputable def bk_Go_watched_0 : List Int32 → List Int64 → tq_S → Option tq_C
  | [x1], [], σ => tq_ob (tq_fI st_Tn_isBelow (0, [x1, 4], [], σ)) (fun r2 σ3 => if r2 = 0 then some (tq_rt, [0], [], σ3) else tq_gd x1 4 (some (tq_rt, [(ia σ3 10 x1)], [], σ3)))
  | _, _, _ => none
noncomputable def st_Go_watched (c : tq_C) : Option tq_C := if c.1 = 0 then bk_Go_watched_0 c.2.1 c.2.2.1 c.2.2.2 else none
set_option maxHeartbeats 40000000 in
set_option maxRecDepth 100000 in
theorem c_Go_watched (l : Launch) (dC : Nat → ClassId) (dI : Nat → Nat → Nat) (cI cL cZ : ClassId) (ad : Nat → Nat) (tt : Nat) (sz : Nat) (σ : tq_S) (a1 : Int32) (r : Int32) (σ' : tq_S) (hf : tq_fI st_Go_watched (0, [a1], [], σ) = some (r, σ')) : Met l y_Go_watched w_Go_watched ({ frames := 1, cells := 0, slots := 0, locals := 21 } : Room) (va_Pc [.ref (ad 3), .int a1] (tq_B dC dI cI cL cZ tt (wo cI cL cZ ad σ) sz)) (va_Qi (fun (r' : Int32) (u : tq_S) => r' = r ∧ u = σ') (tq_E dC dI cI cL cZ (wo cI cL cZ ad) (va_A (wo cI cL cZ ad σ) sz)) (va_A (wo cI cL cZ ad σ) sz)) 0 0 (va_A (wo cI cL cZ ad σ) sz) := by
  obtain ⟨n0, h0⟩ := tq_fI_to hf
  refine Met.ofW (cc := prog_3_method_13_code) (maxL := 2) (ret := (some .int)) (by decide) rfl ?_
  intro p e s m args below meth c s₁ B hml hv
  obtain ⟨rfl, hsz, hP, hK, hD0, hZ, hN⟩ := hv
  have hx := B.exec
  have hb := B.bytes
  have hr := B.returns
  have hts : ∀ w ∈ tq_T, w.before _ s = true := fun w h => atoms_spec (ws := w_Go_watched) B.pre w (List.mem_cons_of_mem _ h)
  have hown : s.vm.findClass "TableauNodes$GoodTypes" = some m.cls := findClass_of_methodNamed B.named
  have hlocks := B.notSynchronized
  subst hsz
  have hD := hD0.self (sz := s.heap.size)
  have hS : va_S (va_A (wo cI cL cZ ad σ) s.heap.size) s.heap s.heap [] := va_S.rf
  have hA : ∀ q : Nat, s.heap.size ≤ q → va_A (wo cI cL cZ ad σ) s.heap.size q := fun q h => Or.inr h
  generalize va_A (wo cI cL cZ ad σ) s.heap.size = A at hD hS hA hZ ⊢
  have hl := lv_entry ([.ref (ad 3), .int a1]) (n := 2) (Nat.le_of_ble_eq_true rfl)
  rw [lg_entry_eq]
  generalize (lg_sl ([.ref (ad 3), .int a1]) ++ List.replicate (2 - (lg_sl ([.ref (ad 3), .int a1])).length) Slot.unset).toArray = ls at hl ⊢
  have hl : lv_has ls 2 [(0, .ref (ad 3)), (1, .int a1)] := hl
  have key : ∀ n : Nat, (∀ {x1 : Int32} {σ : tq_S} {H : Heap} {locs : List Loc} {ls : Array Slot}, va_P (dC, dI) tq_cl (wo cI cL cZ ad σ) H → va_D A (wo cI cL cZ ad σ) → va_S A s.heap H locs → lv_has ls 2 [(0, .ref (ad 3)), (1, .int x1)] → tq_go st_Go_watched n (0, [x1], [], σ) = some (tq_rt, [r], [], σ') → W p l e (headSpec w_Go_watched ({ frames := 1, cells := 0, slots := 0, locals := 21 } : Room)).room s m ([.ref (ad 3), .int a1] : List Value).toArray below meth c H locs 0 0 (MQ below (va_Qi (fun (r' : Int32) (u : tq_S) => r' = r ∧ u = σ') (tq_E dC dI cI cL cZ (wo cI cL cZ ad) A) A) ([.ref (ad 3), .int a1] : List Value).toArray s 0 0 A) (F0 m 0 ls [])) := by
    intro n
    induction n with
    | zero => exact fun _ _ _ _ h => by cases h
    | succ n ih =>
      intro x1 σ H locs ls hP hD hS hl h9
      obtain ⟨q9, hg, hn⟩ := tq_go_s h9 (show ¬ (0 : Nat) = tq_rt by decide)
      replace hg : bk_Go_watched_0 [x1] [] σ = some q9 := hg
      unfold bk_Go_watched_0 at hg
      refine lv_iload_n hx hb d_Go_watched_0 rfl (lv_at hl 1 rfl) ?_
      refine lv_iconst (v := 4) hx hb d_Go_watched_1 (by decide) ?_
      obtain ⟨r2, σ3, f1, hg⟩ := tq_ob_s hg
      refine tq_aI (va_runSN (As := [.int x1, .int 4]) (rest := []) ⟨hx, hb, hml, hown, hts⟩ (c_Tn_isBelow l dC dI cI cL cZ ad tt H.size σ x1 4  r2 σ3 f1) ⟨va_cnB 2 hts (tq_gC tw_239) rfl rfl rfl (hN _ (List.mem_of_getElem? (i := 6) rfl)) (hts _ tw_1) (by decide +kernel) ⟨Nat.le_of_ble_eq_true rfl, Nat.le_of_ble_eq_true rfl⟩, hts _ tw_238, trivial⟩ ⟨tq_bl, (tq_pr hP hK hD hS hA hZ hN)⟩ rfl rfl hl.1 rfl (lv_room (Nat.le_of_ble_eq_true rfl)) d_Go_watched_2 ⟨Nat.zero_le _, Nat.zero_le _⟩) hD hS hA (fun H locs hP hD hS => ?_)
      refine lv_if_eq (tgt := 17) hx hb d_Go_watched_5 (by decide) (fun c4 => ?_) (fun c4 => ?_)
      · replace hg := tq_if_t c4 hg
        refine lv_iconst (v := 0) hx hb d_Go_watched_17 (by decide) ?_
        exact W.iret (v := 0) hx hb hr (fun t ht hW => ⟨⟨0, σ3, rfl, tq_grI hg hn, by rw [ht]; exact hP, va_K.moved hW.alike hK, hD⟩, hS.F ht⟩) hS.2.2 d_Go_watched_18
      · replace hg := tq_if_f c4 hg
        refine lv_aload_n hx hb d_Go_watched_8 rfl (lv_at hl 0 rfl) ?_
        refine va_get (D := (dC, dI)) (ci := 3) (v := .ref (ad 18)) (C := "TableauNodes$GoodTypes") (T := F_Go) (N := 15) hx hb hts in_Go hown hK hP 3 rfl rfl 6 (by decide) (hts _ tw_123) (fun _ h9 => h9) rfl d_Go_watched_9 ?_
        refine lv_iload_n hx hb d_Go_watched_12 rfl (lv_at hl 1 rfl) ?_
        obtain ⟨g5, hg⟩ := tq_gd_s hg
        refine va_iald hx hb hK hP 18 0 rfl rfl g5 d_Go_watched_13 ?_
        refine lv_goto (tgt := 18) hx hb d_Go_watched_14 (by decide) ?_
        exact W.iret (v := (ia σ3 10 x1)) hx hb hr (fun t ht hW => ⟨⟨(ia σ3 10 x1), σ3, rfl, tq_grI hg hn, by rw [ht]; exact hP, va_K.moved hW.alike hK, hD⟩, hS.F ht⟩) hS.2.2 d_Go_watched_18
  exact (key n0) hP hD hS hl h0
noncomputable def bk_Go_word_0 : List Int32 → List Int64 → tq_S → Option tq_C
  | [x1], [], σ => tq_ob (tq_fI st_Tn_isBelow (0, [x1, 16], [], σ)) (fun r2 σ3 => if r2 = 0 then some (tq_rt, [], [0], σ3) else tq_gd x1 16 (some (tq_rt, [], [(la σ3 2 x1)], σ3)))
  | _, _, _ => none
noncomputable def st_Go_word (c : tq_C) : Option tq_C := if c.1 = 0 then bk_Go_word_0 c.2.1 c.2.2.1 c.2.2.2 else none
set_option maxHeartbeats 40000000 in
set_option maxRecDepth 100000 in
theorem c_Go_word (l : Launch) (dC : Nat → ClassId) (dI : Nat → Nat → Nat) (cI cL cZ : ClassId) (ad : Nat → Nat) (tt : Nat) (sz : Nat) (σ : tq_S) (a1 : Int32) (r : Int64) (σ' : tq_S) (hf : tq_fL st_Go_word (0, [a1], [], σ) = some (r, σ')) : Met l y_Go_word w_Go_word ({ frames := 1, cells := 0, slots := 0, locals := 21 } : Room) (va_Pc [.ref (ad 3), .int a1] (tq_B dC dI cI cL cZ tt (wo cI cL cZ ad σ) sz)) (va_Ql (fun (r' : Int64) (u : tq_S) => r' = r ∧ u = σ') (tq_E dC dI cI cL cZ (wo cI cL cZ ad) (va_A (wo cI cL cZ ad σ) sz)) (va_A (wo cI cL cZ ad σ) sz)) 0 0 (va_A (wo cI cL cZ ad σ) sz) := by
  obtain ⟨n0, h0⟩ := tq_fL_to hf
  refine Met.ofW (cc := prog_3_method_12_code) (maxL := 2) (ret := (some .long)) (by decide) rfl ?_
  intro p e s m args below meth c s₁ B hml hv
  obtain ⟨rfl, hsz, hP, hK, hD0, hZ, hN⟩ := hv
  have hx := B.exec
  have hb := B.bytes
  have hr := B.returns
  have hts : ∀ w ∈ tq_T, w.before _ s = true := fun w h => atoms_spec (ws := w_Go_word) B.pre w (List.mem_cons_of_mem _ h)
  have hown : s.vm.findClass "TableauNodes$GoodTypes" = some m.cls := findClass_of_methodNamed B.named
  have hlocks := B.notSynchronized
  subst hsz
  have hD := hD0.self (sz := s.heap.size)
  have hS : va_S (va_A (wo cI cL cZ ad σ) s.heap.size) s.heap s.heap [] := va_S.rf
  have hA : ∀ q : Nat, s.heap.size ≤ q → va_A (wo cI cL cZ ad σ) s.heap.size q := fun q h => Or.inr h
  generalize va_A (wo cI cL cZ ad σ) s.heap.size = A at hD hS hA hZ ⊢
  have hl := lv_entry ([.ref (ad 3), .int a1]) (n := 2) (Nat.le_of_ble_eq_true rfl)
  rw [lg_entry_eq]
  generalize (lg_sl ([.ref (ad 3), .int a1]) ++ List.replicate (2 - (lg_sl ([.ref (ad 3), .int a1])).length) Slot.unset).toArray = ls at hl ⊢
  have hl : lv_has ls 2 [(0, .ref (ad 3)), (1, .int a1)] := hl
  have key : ∀ n : Nat, (∀ {x1 : Int32} {σ : tq_S} {H : Heap} {locs : List Loc} {ls : Array Slot}, va_P (dC, dI) tq_cl (wo cI cL cZ ad σ) H → va_D A (wo cI cL cZ ad σ) → va_S A s.heap H locs → lv_has ls 2 [(0, .ref (ad 3)), (1, .int x1)] → tq_go st_Go_word n (0, [x1], [], σ) = some (tq_rt, [], [r], σ') → W p l e (headSpec w_Go_word ({ frames := 1, cells := 0, slots := 0, locals := 21 } : Room)).room s m ([.ref (ad 3), .int a1] : List Value).toArray below meth c H locs 0 0 (MQ below (va_Ql (fun (r' : Int64) (u : tq_S) => r' = r ∧ u = σ') (tq_E dC dI cI cL cZ (wo cI cL cZ ad) A) A) ([.ref (ad 3), .int a1] : List Value).toArray s 0 0 A) (F0 m 0 ls [])) := by
    intro n
    induction n with
    | zero => exact fun _ _ _ _ h => by cases h
    | succ n ih =>
      intro x1 σ H locs ls hP hD hS hl h9
      obtain ⟨q9, hg, hn⟩ := tq_go_s h9 (show ¬ (0 : Nat) = tq_rt by decide)
      replace hg : bk_Go_word_0 [x1] [] σ = some q9 := hg
      unfold bk_Go_word_0 at hg
      refine lv_iload_n hx hb d_Go_word_0 rfl (lv_at hl 1 rfl) ?_
      refine lv_bipush (v := 16) hx hb d_Go_word_1 (by decide) ?_
      obtain ⟨r2, σ3, f1, hg⟩ := tq_ob_s hg
      refine tq_aI (va_runSN (As := [.int x1, .int 16]) (rest := []) ⟨hx, hb, hml, hown, hts⟩ (c_Tn_isBelow l dC dI cI cL cZ ad tt H.size σ x1 16  r2 σ3 f1) ⟨va_cnB 2 hts (tq_gC tw_239) rfl rfl rfl (hN _ (List.mem_of_getElem? (i := 6) rfl)) (hts _ tw_1) (by decide +kernel) ⟨Nat.le_of_ble_eq_true rfl, Nat.le_of_ble_eq_true rfl⟩, hts _ tw_238, trivial⟩ ⟨tq_bl, (tq_pr hP hK hD hS hA hZ hN)⟩ rfl rfl hl.1 rfl (lv_room (Nat.le_of_ble_eq_true rfl)) d_Go_word_3 ⟨Nat.zero_le _, Nat.zero_le _⟩) hD hS hA (fun H locs hP hD hS => ?_)
      refine lv_if_eq (tgt := 18) hx hb d_Go_word_6 (by decide) (fun c4 => ?_) (fun c4 => ?_)
      · replace hg := tq_if_t c4 hg
        refine lv_lconst (v := 0) hx hb d_Go_word_18 (by decide) ?_
        exact W.lret (v := 0) hx hb hr (fun t ht hW => ⟨⟨0, σ3, rfl, tq_grL hg hn, by rw [ht]; exact hP, va_K.moved hW.alike hK, hD⟩, hS.F ht⟩) hS.2.2 d_Go_word_19
      · replace hg := tq_if_f c4 hg
        refine lv_aload_n hx hb d_Go_word_9 rfl (lv_at hl 0 rfl) ?_
        refine va_get (D := (dC, dI)) (ci := 3) (v := .ref (ad 19)) (C := "TableauNodes$GoodTypes") (T := F_Go) (N := 15) hx hb hts in_Go hown hK hP 3 rfl rfl 7 (by decide) (hts _ tw_124) (fun _ h9 => h9) rfl d_Go_word_10 ?_
        refine lv_iload_n hx hb d_Go_word_13 rfl (lv_at hl 1 rfl) ?_
        obtain ⟨g5, hg⟩ := tq_gd_s hg
        refine va_lald hx hb hK hP 19 1 rfl rfl g5 d_Go_word_14 ?_
        refine lv_goto (tgt := 19) hx hb d_Go_word_15 (by decide) ?_
        exact W.lret (v := (la σ3 2 x1)) hx hb hr (fun t ht hW => ⟨⟨(la σ3 2 x1), σ3, rfl, tq_grL hg hn, by rw [ht]; exact hP, va_K.moved hW.alike hK, hD⟩, hS.F ht⟩) hS.2.2 d_Go_word_19
  exact (key n0) hP hD hS hl h0
noncomputable def bk_Th_sayIs_0 : List Int32 → List Int64 → tq_S → Option tq_C
  | [x1, x2], [], σ => if 40 ≤ (σ.2.2 7) then some (tq_rt, [(-3)], [], σ) else tq_ob (tq_fI st_Tn_isBelow (0, [x1, 5], [], σ)) (fun r3 σ4 => if ¬ r3 = 0 then some (22, [x1, x2, 0], [], σ4) else some (tq_rt, [(-3)], [], σ4))
  | _, _, _ => none
noncomputable def bk_Th_sayIs_22 : List Int32 → List Int64 → tq_S → Option tq_C
  | [x1, x2, x3], [], σ => if 16 ≤ x3 then tq_lj (fput σ 11 1) (fun σ7 => tq_lj (fput σ7 7 ((σ7.2.2 7) + 1)) (fun σ8 => some (tq_rt, [(σ8.2.2 7)], [], σ8))) else tq_gd ((x1 * 16) + x3) 80 (tq_ob (tq_fL st_Co_word (0, [x2, x3], [], σ)) (fun r11 σ12 => tq_gd ((x1 * 16) + x3) 80 (tq_lj (lput σ12 4 ((x1 * 16) + x3).toNatClampNeg ((la σ 4 ((x1 * 16) + x3)) &&& r11)) (fun σ14 => tq_lj (x3 + 1) (fun v15 => some (22, [x1, x2, v15], [], σ14))))))
  | _, _, _ => none
noncomputable def st_Th_sayIs (c : tq_C) : Option tq_C := if c.1 = 0 then bk_Th_sayIs_0 c.2.1 c.2.2.1 c.2.2.2 else if c.1 = 22 then bk_Th_sayIs_22 c.2.1 c.2.2.1 c.2.2.2 else none
set_option maxHeartbeats 40000000 in
set_option maxRecDepth 100000 in
theorem c_Th_sayIs (l : Launch) (dC : Nat → ClassId) (dI : Nat → Nat → Nat) (cI cL cZ : ClassId) (ad : Nat → Nat) (tt : Nat) (sz : Nat) (σ : tq_S) (a1 : Int32) (a2 : Int32) (r : Int32) (σ' : tq_S) (hf : tq_fI st_Th_sayIs (0, [a1, a2], [], σ) = some (r, σ')) : Met l y_Th_sayIs w_Th_sayIs ({ frames := 1, cells := 0, slots := 0, locals := 23 } : Room) (va_Pc [.ref (ad 4), .int a1, .int a2] (tq_B dC dI cI cL cZ tt (wo cI cL cZ ad σ) sz)) (va_Qi (fun (r' : Int32) (u : tq_S) => r' = r ∧ u = σ') (tq_E dC dI cI cL cZ (wo cI cL cZ ad) (va_A (wo cI cL cZ ad σ) sz)) (va_A (wo cI cL cZ ad σ) sz)) 0 0 (va_A (wo cI cL cZ ad σ) sz) := by
  obtain ⟨n0, h0⟩ := tq_fI_to hf
  refine Met.ofW (cc := prog_5_method_2_code) (maxL := 4) (ret := (some .int)) (by decide) rfl ?_
  intro p e s m args below meth c s₁ B hml hv
  obtain ⟨rfl, hsz, hP, hK, hD0, hZ, hN⟩ := hv
  have hx := B.exec
  have hb := B.bytes
  have hr := B.returns
  have hts : ∀ w ∈ tq_T, w.before _ s = true := fun w h => atoms_spec (ws := w_Th_sayIs) B.pre w (List.mem_cons_of_mem _ h)
  have hown : s.vm.findClass "TableauNodes$Things" = some m.cls := findClass_of_methodNamed B.named
  have hlocks := B.notSynchronized
  subst hsz
  have hD := hD0.self (sz := s.heap.size)
  have hS : va_S (va_A (wo cI cL cZ ad σ) s.heap.size) s.heap s.heap [] := va_S.rf
  have hA : ∀ q : Nat, s.heap.size ≤ q → va_A (wo cI cL cZ ad σ) s.heap.size q := fun q h => Or.inr h
  generalize va_A (wo cI cL cZ ad σ) s.heap.size = A at hD hS hA hZ ⊢
  have hl := lv_entry ([.ref (ad 4), .int a1, .int a2]) (n := 4) (Nat.le_of_ble_eq_true rfl)
  rw [lg_entry_eq]
  generalize (lg_sl ([.ref (ad 4), .int a1, .int a2]) ++ List.replicate (4 - (lg_sl ([.ref (ad 4), .int a1, .int a2])).length) Slot.unset).toArray = ls at hl ⊢
  have hl : lv_has ls 4 [(0, .ref (ad 4)), (1, .int a1), (2, .int a2)] := hl
  have key : ∀ n : Nat, (∀ {x1 x2 : Int32} {σ : tq_S} {H : Heap} {locs : List Loc} {ls : Array Slot}, va_P (dC, dI) tq_cl (wo cI cL cZ ad σ) H → va_D A (wo cI cL cZ ad σ) → va_S A s.heap H locs → lv_has ls 4 [(0, .ref (ad 4)), (1, .int x1), (2, .int x2)] → tq_go st_Th_sayIs n (0, [x1, x2], [], σ) = some (tq_rt, [r], [], σ') → W p l e (headSpec w_Th_sayIs ({ frames := 1, cells := 0, slots := 0, locals := 23 } : Room)).room s m ([.ref (ad 4), .int a1, .int a2] : List Value).toArray below meth c H locs 0 0 (MQ below (va_Qi (fun (r' : Int32) (u : tq_S) => r' = r ∧ u = σ') (tq_E dC dI cI cL cZ (wo cI cL cZ ad) A) A) ([.ref (ad 4), .int a1, .int a2] : List Value).toArray s 0 0 A) (F0 m 0 ls [])) ∧ (∀ {x1 x2 x3 : Int32} {σ : tq_S} {H : Heap} {locs : List Loc} {ls : Array Slot}, va_P (dC, dI) tq_cl (wo cI cL cZ ad σ) H → va_D A (wo cI cL cZ ad σ) → va_S A s.heap H locs → lv_has ls 4 [(0, .ref (ad 4)), (1, .int x1), (2, .int x2), (3, .int x3)] → tq_go st_Th_sayIs n (22, [x1, x2, x3], [], σ) = some (tq_rt, [r], [], σ') → W p l e (headSpec w_Th_sayIs ({ frames := 1, cells := 0, slots := 0, locals := 23 } : Room)).room s m ([.ref (ad 4), .int a1, .int a2] : List Value).toArray below meth c H locs 0 0 (MQ below (va_Qi (fun (r' : Int32) (u : tq_S) => r' = r ∧ u = σ') (tq_E dC dI cI cL cZ (wo cI cL cZ ad) A) A) ([.ref (ad 4), .int a1, .int a2] : List Value).toArray s 0 0 A) (F0 m 22 ls [])) := by
    intro n
    induction n with
    | zero => exact ⟨(fun _ _ _ _ h => by cases h), (fun _ _ _ _ h => by cases h)⟩
    | succ n ih =>
      refine ⟨?_, ?_⟩
      · intro x1 x2 σ H locs ls hP hD hS hl h9
        obtain ⟨q9, hg, hn⟩ := tq_go_s h9 (show ¬ (0 : Nat) = tq_rt by decide)
        replace hg : bk_Th_sayIs_0 [x1, x2] [] σ = some q9 := hg
        unfold bk_Th_sayIs_0 at hg
        refine lv_aload_n hx hb d_Th_sayIs_0 rfl (lv_at hl 0 rfl) ?_
        refine va_get (D := (dC, dI)) (ci := 4) (v := .int (σ.2.2 7)) (C := "TableauNodes$Things") (T := F_Th) (N := 15) hx hb hts in_Th hown hK hP 4 rfl rfl 5 (by decide) (hts _ tw_179) (fun _ h9 => h9) rfl d_Th_sayIs_1 ?_
        refine lv_bipush (v := 40) hx hb d_Th_sayIs_4 (by decide) ?_
        refine lv_icmp_ge (tgt := 17) hx hb d_Th_sayIs_6 (by decide) (fun c1 => ?_) (fun c1 => ?_)
        · replace hg := tq_if_t c1 hg
          refine lv_bipush (v := (-3)) hx hb d_Th_sayIs_17 (by decide) ?_
          exact W.iret (v := (-3)) hx hb hr (fun t ht hW => ⟨⟨(-3), σ, rfl, tq_grI hg hn, by rw [ht]; exact hP, va_K.moved hW.alike hK, hD⟩, hS.F ht⟩) hS.2.2 d_Th_sayIs_19
        · replace hg := tq_if_f c1 hg
          refine lv_iload_n hx hb d_Th_sayIs_9 rfl (lv_at hl 1 rfl) ?_
          refine lv_iconst (v := 5) hx hb d_Th_sayIs_10 (by decide) ?_
          obtain ⟨r3, σ4, f2, hg⟩ := tq_ob_s hg
          refine tq_aI (va_runSN (As := [.int x1, .int 5]) (rest := []) ⟨hx, hb, hml, hown, hts⟩ (c_Tn_isBelow l dC dI cI cL cZ ad tt H.size σ x1 5  r3 σ4 f2) ⟨va_cnB 2 hts (tq_gC tw_239) rfl rfl rfl (hN _ (List.mem_of_getElem? (i := 7) rfl)) (hts _ tw_1) (by decide +kernel) ⟨Nat.le_of_ble_eq_true rfl, Nat.le_of_ble_eq_true rfl⟩, hts _ tw_238, trivial⟩ ⟨tq_bl, (tq_pr hP hK hD hS hA hZ hN)⟩ rfl rfl hl.1 rfl (lv_room (Nat.le_of_ble_eq_true rfl)) d_Th_sayIs_11 ⟨Nat.zero_le _, Nat.zero_le _⟩) hD hS hA (fun H locs hP hD hS => ?_)
          refine lv_if_ne (tgt := 20) hx hb d_Th_sayIs_14 (by decide) (fun c5 => ?_) (fun c5 => ?_)
          · replace hg := tq_if_t c5 hg
            refine lv_iconst (v := 0) hx hb d_Th_sayIs_20 (by decide) ?_
            refine lv_istore_n (lv' := [(3, .int 0), (0, .ref (ad 4)), (1, .int x1), (2, .int x2)]) hx hb d_Th_sayIs_21 rfl hl (by decide) rfl (fun ls hl => ?_)
            exact ih.2 hP hD hS (lv_sub hl [1, 2, 3, 0] rfl) (tq_gi hg hn)
          · replace hg := tq_if_n c5 hg
            refine lv_bipush (v := (-3)) hx hb d_Th_sayIs_17 (by decide) ?_
            exact W.iret (v := (-3)) hx hb hr (fun t ht hW => ⟨⟨(-3), σ4, rfl, tq_grI hg hn, by rw [ht]; exact hP, va_K.moved hW.alike hK, hD⟩, hS.F ht⟩) hS.2.2 d_Th_sayIs_19
      · intro x1 x2 x3 σ H locs ls hP hD hS hl h9
        obtain ⟨q9, hg, hn⟩ := tq_go_s h9 (show ¬ (22 : Nat) = tq_rt by decide)
        replace hg : bk_Th_sayIs_22 [x1, x2, x3] [] σ = some q9 := hg
        unfold bk_Th_sayIs_22 at hg
        refine lv_iload_n hx hb d_Th_sayIs_22 rfl (lv_at hl 3 rfl) ?_
        refine lv_bipush (v := 16) hx hb d_Th_sayIs_23 (by decide) ?_
        refine lv_icmp_ge (tgt := 57) hx hb d_Th_sayIs_25 (by decide) (fun c6 => ?_) (fun c6 => ?_)
        · replace hg := tq_if_t c6 hg
          refine lv_aload_n hx hb d_Th_sayIs_57 rfl (lv_at hl 0 rfl) ?_
          refine lv_iconst (v := 1) hx hb d_Th_sayIs_58 (by decide) ?_
          refine va_put (D := (dC, dI)) (ci := 4) (v := .int 1) (ty := .boolean) (C := "TableauNodes$Things") (T := F_Th) (N := 15) hx hb hts in_Th ty_Th tk_Th nm_Th hown hK hP hD hS 4 rfl rfl 13 (by decide) (hts _ tw_187) (fun _ h9 => h9) rfl (by decide +kernel) rfl rfl (Nat.le_of_ble_eq_true rfl) d_Th_sayIs_59 (fun H locs hP hD hS => ?_)
          obtain ⟨σ7, eσ7, hg⟩ := tq_lj_s hg
          replace hP : va_P (dC, dI) tq_cl (wo cI cL cZ ad σ7) H := by rw [eσ7, ← ws_f11]; exact hP
          replace hD : va_D A (wo cI cL cZ ad σ7) := by rw [eσ7, ← ws_f11]; exact hD
          refine lv_aload_n hx hb d_Th_sayIs_62 rfl (lv_at hl 0 rfl) ?_
          refine lv_dup hx hb d_Th_sayIs_63 rfl ?_
          refine va_get (D := (dC, dI)) (ci := 4) (v := .int (σ7.2.2 7)) (C := "TableauNodes$Things") (T := F_Th) (N := 15) hx hb hts in_Th hown hK hP 4 rfl rfl 5 (by decide) (hts _ tw_179) (fun _ h9 => h9) rfl d_Th_sayIs_64 ?_
          refine lv_iconst (v := 1) hx hb d_Th_sayIs_67 (by decide) ?_
          refine lv_iadd hx hb d_Th_sayIs_68 ?_
          refine va_put (D := (dC, dI)) (ci := 4) (v := .int ((σ7.2.2 7) + 1)) (ty := .int) (C := "TableauNodes$Things") (T := F_Th) (N := 15) hx hb hts in_Th ty_Th tk_Th nm_Th hown hK hP hD hS 4 rfl rfl 5 (by decide) (hts _ tw_179) (fun _ h9 => h9) rfl (by decide +kernel) rfl rfl (Nat.le_of_ble_eq_true rfl) d_Th_sayIs_69 (fun H locs hP hD hS => ?_)
          obtain ⟨σ8, eσ8, hg⟩ := tq_lj_s hg
          replace hP : va_P (dC, dI) tq_cl (wo cI cL cZ ad σ8) H := by rw [eσ8, ← ws_f7]; exact hP
          replace hD : va_D A (wo cI cL cZ ad σ8) := by rw [eσ8, ← ws_f7]; exact hD
          refine lv_aload_n hx hb d_Th_sayIs_72 rfl (lv_at hl 0 rfl) ?_
          refine va_get (D := (dC, dI)) (ci := 4) (v := .int (σ8.2.2 7)) (C := "TableauNodes$Things") (T := F_Th) (N := 15) hx hb hts in_Th hown hK hP 4 rfl rfl 5 (by decide) (hts _ tw_179) (fun _ h9 => h9) rfl d_Th_sayIs_73 ?_
          exact W.iret (v := (σ8.2.2 7)) hx hb hr (fun t ht hW => ⟨⟨(σ8.2.2 7), σ8, rfl, tq_grI hg hn, by rw [ht]; exact hP, va_K.moved hW.alike hK, hD⟩, hS.F ht⟩) hS.2.2 d_Th_sayIs_76
        · replace hg := tq_if_f c6 hg
          refine lv_aload_n hx hb d_Th_sayIs_28 rfl (lv_at hl 0 rfl) ?_
          refine va_get (D := (dC, dI)) (ci := 4) (v := .ref (ad 23)) (C := "TableauNodes$Things") (T := F_Th) (N := 15) hx hb hts in_Th hown hK hP 4 rfl rfl 2 (by decide) (hts _ tw_176) (fun _ h9 => h9) rfl d_Th_sayIs_29 ?_
          refine lv_iload_n hx hb d_Th_sayIs_32 rfl (lv_at hl 1 rfl) ?_
          refine lv_bipush (v := 16) hx hb d_Th_sayIs_33 (by decide) ?_
          refine lv_imul hx hb d_Th_sayIs_35 ?_
          refine lv_iload_n hx hb d_Th_sayIs_36 rfl (lv_at hl 3 rfl) ?_
          refine lv_iadd hx hb d_Th_sayIs_37 ?_
          refine lv_dup2_11 hx hb d_Th_sayIs_38 rfl rfl ?_
          obtain ⟨g9, hg⟩ := tq_gd_s hg
          refine va_lald hx hb hK hP 23 1 rfl rfl g9 d_Th_sayIs_39 ?_
          refine lv_aload_n hx hb d_Th_sayIs_40 rfl (lv_at hl 0 rfl) ?_
          refine va_get (D := (dC, dI)) (ci := 4) (v := .ref (ad 1)) (C := "TableauNodes$Things") (T := F_Th) (N := 15) hx hb hts in_Th hown hK hP 4 rfl rfl 0 (by decide) (hts _ tw_174) (fun _ h9 => h9) rfl d_Th_sayIs_41 ?_
          refine lv_iload_n hx hb d_Th_sayIs_44 rfl (lv_at hl 2 rfl) ?_
          refine lv_iload_n hx hb d_Th_sayIs_45 rfl (lv_at hl 3 rfl) ?_
          obtain ⟨r11, σ12, f10, hg⟩ := tq_ob_s hg
          refine tq_aL (va_runV (As := [.int x2, .int x3]) (rest := [.long (la σ 4 ((x1 * 16) + x3)), .int ((x1 * 16) + x3), .ref (ad 23)]) ⟨hx, hb, hml, hown, hts⟩ (c_Co_word l dC dI cI cL cZ ad tt H.size σ x2 x3  r11 σ12 f10) (cwV 2 hts (tq_gV tw_449 tw_49 tw_50 tw_2 tw_51) rfl rfl rfl (by decide +kernel) ⟨Nat.le_of_ble_eq_true rfl, Nat.le_of_ble_eq_true rfl⟩) ⟨tq_bl, va_recv hK hP (ci := 1) (q0 := 1) rfl rfl, (tq_pr hP hK hD hS hA hZ hN)⟩ rfl rfl hl.1 rfl (lv_room (Nat.le_of_ble_eq_true rfl)) d_Th_sayIs_46 ⟨Nat.zero_le _, Nat.zero_le _⟩) hD hS hA (fun H locs hP hD hS => ?_)
          refine lv_land hx hb d_Th_sayIs_49 ?_
          obtain ⟨g13, hg⟩ := tq_gd_s hg
          refine va_last hx hb hK hP hD hS 23 1 rfl rfl g13 d_Th_sayIs_50 (fun H locs hP hD hS => ?_)
          obtain ⟨σ14, eσ14, hg⟩ := tq_lj_s hg
          replace hP : va_P (dC, dI) tq_cl (wo cI cL cZ ad σ14) H := by rw [eσ14, ← ws_l4]; exact hP
          replace hD : va_D A (wo cI cL cZ ad σ14) := by rw [eσ14, ← ws_l4]; exact hD
          obtain ⟨v15, ev15, hg⟩ := tq_lj_s hg
          refine lv_iinc (v := v15) (lv' := [(3, .int v15), (0, .ref (ad 4)), (1, .int x1), (2, .int x2)]) hx hb d_Th_sayIs_51 hl (k := 3) rfl (by rw [ev15]; rfl) (by decide) rfl (fun ls hl => ?_)
          refine lv_goto (tgt := 22) hx hb d_Th_sayIs_54 (by decide) ?_
          exact ih.2 hP hD hS (lv_sub hl [1, 2, 3, 0] rfl) (tq_gi hg hn)
  exact (key n0).1 hP hD hS hl h0
noncomputable def bk_Th_sayHas_0 : List Int32 → List Int64 → tq_S → Option tq_C
  | [x1, x2, x3], [], σ => if 40 ≤ (σ.2.2 8) then some (tq_rt, [(-3)], [], σ) else tq_ob (tq_fI st_Tn_isBelow (0, [x1, 5], [], σ)) (fun r3 σ4 => if r3 = 0 then some (tq_rt, [(-3)], [], σ4) else tq_ob (tq_fI st_Tn_isBelow (0, [x3, 5], [], σ4)) (fun r7 σ8 => if ¬ r7 = 0 then tq_gd ((x1 * 5) + x3) 25 (tq_gd ((x1 * 5) + x3) 25 (tq_lj (iput σ8 13 ((x1 * 5) + x3).toNatClampNeg ((ia σ8 13 ((x1 * 5) + x3)) ||| (1 <<< (x2 &&& 31)))) (fun σ12 => tq_lj (fput σ12 11 1) (fun σ13 => tq_lj (fput σ13 8 ((σ13.2.2 8) + 1)) (fun σ14 => some (tq_rt, [(σ14.2.2 8)], [], σ14)))))) else some (tq_rt, [(-3)], [], σ8)))
  | _, _, _ => none
noncomputable def st_Th_sayHas (c : tq_C) : Option tq_C := if c.1 = 0 then bk_Th_sayHas_0 c.2.1 c.2.2.1 c.2.2.2 else none
set_option maxHeartbeats 40000000 in
set_option maxRecDepth 100000 in
theorem c_Th_sayHas (l : Launch) (dC : Nat → ClassId) (dI : Nat → Nat → Nat) (cI cL cZ : ClassId) (ad : Nat → Nat) (tt : Nat) (sz : Nat) (σ : tq_S) (a1 : Int32) (a2 : Int32) (a3 : Int32) (r : Int32) (σ' : tq_S) (hf : tq_fI st_Th_sayHas (0, [a1, a2, a3], [], σ) = some (r, σ')) : Met l y_Th_sayHas w_Th_sayHas ({ frames := 1, cells := 0, slots := 0, locals := 21 } : Room) (va_Pc [.ref (ad 4), .int a1, .int a2, .int a3] (tq_B dC dI cI cL cZ tt (wo cI cL cZ ad σ) sz)) (va_Qi (fun (r' : Int32) (u : tq_S) => r' = r ∧ u = σ') (tq_E dC dI cI cL cZ (wo cI cL cZ ad) (va_A (wo cI cL cZ ad σ) sz)) (va_A (wo cI cL cZ ad σ) sz)) 0 0 (va_A (wo cI cL cZ ad σ) sz) := by
  obtain ⟨n0, h0⟩ := tq_fI_to hf
  refine Met.ofW (cc := prog_5_method_3_code) (maxL := 4) (ret := (some .int)) (by decide) rfl ?_
  intro p e s m args below meth c s₁ B hml hv
  obtain ⟨rfl, hsz, hP, hK, hD0, hZ, hN⟩ := hv
  have hx := B.exec
  have hb := B.bytes
  have hr := B.returns
  have hts : ∀ w ∈ tq_T, w.before _ s = true := fun w h => atoms_spec (ws := w_Th_sayHas) B.pre w (List.mem_cons_of_mem _ h)
  have hown : s.vm.findClass "TableauNodes$Things" = some m.cls := findClass_of_methodNamed B.named
  have hlocks := B.notSynchronized
  subst hsz
  have hD := hD0.self (sz := s.heap.size)
  have hS : va_S (va_A (wo cI cL cZ ad σ) s.heap.size) s.heap s.heap [] := va_S.rf
  have hA : ∀ q : Nat, s.heap.size ≤ q → va_A (wo cI cL cZ ad σ) s.heap.size q := fun q h => Or.inr h
  generalize va_A (wo cI cL cZ ad σ) s.heap.size = A at hD hS hA hZ ⊢
  have hl := lv_entry ([.ref (ad 4), .int a1, .int a2, .int a3]) (n := 4) (Nat.le_of_ble_eq_true rfl)
  rw [lg_entry_eq]
  generalize (lg_sl ([.ref (ad 4), .int a1, .int a2, .int a3]) ++ List.replicate (4 - (lg_sl ([.ref (ad 4), .int a1, .int a2, .int a3])).length) Slot.unset).toArray = ls at hl ⊢
  have hl : lv_has ls 4 [(0, .ref (ad 4)), (1, .int a1), (2, .int a2), (3, .int a3)] := hl
  have key : ∀ n : Nat, (∀ {x1 x2 x3 : Int32} {σ : tq_S} {H : Heap} {locs : List Loc} {ls : Array Slot}, va_P (dC, dI) tq_cl (wo cI cL cZ ad σ) H → va_D A (wo cI cL cZ ad σ) → va_S A s.heap H locs → lv_has ls 4 [(0, .ref (ad 4)), (1, .int x1), (2, .int x2), (3, .int x3)] → tq_go st_Th_sayHas n (0, [x1, x2, x3], [], σ) = some (tq_rt, [r], [], σ') → W p l e (headSpec w_Th_sayHas ({ frames := 1, cells := 0, slots := 0, locals := 21 } : Room)).room s m ([.ref (ad 4), .int a1, .int a2, .int a3] : List Value).toArray below meth c H locs 0 0 (MQ below (va_Qi (fun (r' : Int32) (u : tq_S) => r' = r ∧ u = σ') (tq_E dC dI cI cL cZ (wo cI cL cZ ad) A) A) ([.ref (ad 4), .int a1, .int a2, .int a3] : List Value).toArray s 0 0 A) (F0 m 0 ls [])) := by
    intro n
    induction n with
    | zero => exact fun _ _ _ _ h => by cases h
    | succ n ih =>
      intro x1 x2 x3 σ H locs ls hP hD hS hl h9
      obtain ⟨q9, hg, hn⟩ := tq_go_s h9 (show ¬ (0 : Nat) = tq_rt by decide)
      replace hg : bk_Th_sayHas_0 [x1, x2, x3] [] σ = some q9 := hg
      unfold bk_Th_sayHas_0 at hg
      refine lv_aload_n hx hb d_Th_sayHas_0 rfl (lv_at hl 0 rfl) ?_
      refine va_get (D := (dC, dI)) (ci := 4) (v := .int (σ.2.2 8)) (C := "TableauNodes$Things") (T := F_Th) (N := 15) hx hb hts in_Th hown hK hP 4 rfl rfl 6 (by decide) (hts _ tw_180) (fun _ h9 => h9) rfl d_Th_sayHas_1 ?_
      refine lv_bipush (v := 40) hx hb d_Th_sayHas_4 (by decide) ?_
      refine lv_icmp_ge (tgt := 25) hx hb d_Th_sayHas_6 (by decide) (fun c1 => ?_) (fun c1 => ?_)
      · replace hg := tq_if_t c1 hg
        refine lv_bipush (v := (-3)) hx hb d_Th_sayHas_25 (by decide) ?_
        exact W.iret (v := (-3)) hx hb hr (fun t ht hW => ⟨⟨(-3), σ, rfl, tq_grI hg hn, by rw [ht]; exact hP, va_K.moved hW.alike hK, hD⟩, hS.F ht⟩) hS.2.2 d_Th_sayHas_27
      · replace hg := tq_if_f c1 hg
        refine lv_iload_n hx hb d_Th_sayHas_9 rfl (lv_at hl 1 rfl) ?_
        refine lv_iconst (v := 5) hx hb d_Th_sayHas_10 (by decide) ?_
        obtain ⟨r3, σ4, f2, hg⟩ := tq_ob_s hg
        refine tq_aI (va_runSN (As := [.int x1, .int 5]) (rest := []) ⟨hx, hb, hml, hown, hts⟩ (c_Tn_isBelow l dC dI cI cL cZ ad tt H.size σ x1 5  r3 σ4 f2) ⟨va_cnB 2 hts (tq_gC tw_239) rfl rfl rfl (hN _ (List.mem_of_getElem? (i := 7) rfl)) (hts _ tw_1) (by decide +kernel) ⟨Nat.le_of_ble_eq_true rfl, Nat.le_of_ble_eq_true rfl⟩, hts _ tw_238, trivial⟩ ⟨tq_bl, (tq_pr hP hK hD hS hA hZ hN)⟩ rfl rfl hl.1 rfl (lv_room (Nat.le_of_ble_eq_true rfl)) d_Th_sayHas_11 ⟨Nat.zero_le _, Nat.zero_le _⟩) hD hS hA (fun H locs hP hD hS => ?_)
        refine lv_if_eq (tgt := 25) hx hb d_Th_sayHas_14 (by decide) (fun c5 => ?_) (fun c5 => ?_)
        · replace hg := tq_if_t c5 hg
          refine lv_bipush (v := (-3)) hx hb d_Th_sayHas_25 (by decide) ?_
          exact W.iret (v := (-3)) hx hb hr (fun t ht hW => ⟨⟨(-3), σ4, rfl, tq_grI hg hn, by rw [ht]; exact hP, va_K.moved hW.alike hK, hD⟩, hS.F ht⟩) hS.2.2 d_Th_sayHas_27
        · replace hg := tq_if_f c5 hg
          refine lv_iload_n hx hb d_Th_sayHas_17 rfl (lv_at hl 3 rfl) ?_
          refine lv_iconst (v := 5) hx hb d_Th_sayHas_18 (by decide) ?_
          obtain ⟨r7, σ8, f6, hg⟩ := tq_ob_s hg
          refine tq_aI (va_runSN (As := [.int x3, .int 5]) (rest := []) ⟨hx, hb, hml, hown, hts⟩ (c_Tn_isBelow l dC dI cI cL cZ ad tt H.size σ4 x3 5  r7 σ8 f6) ⟨va_cnB 2 hts (tq_gC tw_239) rfl rfl rfl (hN _ (List.mem_of_getElem? (i := 7) rfl)) (hts _ tw_1) (by decide +kernel) ⟨Nat.le_of_ble_eq_true rfl, Nat.le_of_ble_eq_true rfl⟩, hts _ tw_238, trivial⟩ ⟨tq_bl, (tq_pr hP hK hD hS hA hZ hN)⟩ rfl rfl hl.1 rfl (lv_room (Nat.le_of_ble_eq_true rfl)) d_Th_sayHas_19 ⟨Nat.zero_le _, Nat.zero_le _⟩) hD hS hA (fun H locs hP hD hS => ?_)
          refine lv_if_ne (tgt := 28) hx hb d_Th_sayHas_22 (by decide) (fun c9 => ?_) (fun c9 => ?_)
          · replace hg := tq_if_t c9 hg
            refine lv_aload_n hx hb d_Th_sayHas_28 rfl (lv_at hl 0 rfl) ?_
            refine va_get (D := (dC, dI)) (ci := 4) (v := .ref (ad 24)) (C := "TableauNodes$Things") (T := F_Th) (N := 15) hx hb hts in_Th hown hK hP 4 rfl rfl 3 (by decide) (hts _ tw_177) (fun _ h9 => h9) rfl d_Th_sayHas_29 ?_
            refine lv_iload_n hx hb d_Th_sayHas_32 rfl (lv_at hl 1 rfl) ?_
            refine lv_iconst (v := 5) hx hb d_Th_sayHas_33 (by decide) ?_
            refine lv_imul hx hb d_Th_sayHas_34 ?_
            refine lv_iload_n hx hb d_Th_sayHas_35 rfl (lv_at hl 3 rfl) ?_
            refine lv_iadd hx hb d_Th_sayHas_36 ?_
            refine lv_dup2_11 hx hb d_Th_sayHas_37 rfl rfl ?_
            obtain ⟨g10, hg⟩ := tq_gd_s hg
            refine va_iald hx hb hK hP 24 0 rfl rfl g10 d_Th_sayHas_38 ?_
            refine lv_iconst (v := 1) hx hb d_Th_sayHas_39 (by decide) ?_
            refine lv_iload_n hx hb d_Th_sayHas_40 rfl (lv_at hl 2 rfl) ?_
            refine lv_ishl hx hb d_Th_sayHas_41 ?_
            refine lv_ior hx hb d_Th_sayHas_42 ?_
            obtain ⟨g11, hg⟩ := tq_gd_s hg
            refine va_iast hx hb hK hP hD hS 24 0 rfl rfl g11 d_Th_sayHas_43 (fun H locs hP hD hS => ?_)
            obtain ⟨σ12, eσ12, hg⟩ := tq_lj_s hg
            replace hP : va_P (dC, dI) tq_cl (wo cI cL cZ ad σ12) H := by rw [eσ12, ← ws_i13]; exact hP
            replace hD : va_D A (wo cI cL cZ ad σ12) := by rw [eσ12, ← ws_i13]; exact hD
            refine lv_aload_n hx hb d_Th_sayHas_44 rfl (lv_at hl 0 rfl) ?_
            refine lv_iconst (v := 1) hx hb d_Th_sayHas_45 (by decide) ?_
            refine va_put (D := (dC, dI)) (ci := 4) (v := .int 1) (ty := .boolean) (C := "TableauNodes$Things") (T := F_Th) (N := 15) hx hb hts in_Th ty_Th tk_Th nm_Th hown hK hP hD hS 4 rfl rfl 13 (by decide) (hts _ tw_187) (fun _ h9 => h9) rfl (by decide +kernel) rfl rfl (Nat.le_of_ble_eq_true rfl) d_Th_sayHas_46 (fun H locs hP hD hS => ?_)
            obtain ⟨σ13, eσ13, hg⟩ := tq_lj_s hg
            replace hP : va_P (dC, dI) tq_cl (wo cI cL cZ ad σ13) H := by rw [eσ13, ← ws_f11]; exact hP
            replace hD : va_D A (wo cI cL cZ ad σ13) := by rw [eσ13, ← ws_f11]; exact hD
            refine lv_aload_n hx hb d_Th_sayHas_49 rfl (lv_at hl 0 rfl) ?_
            refine lv_dup hx hb d_Th_sayHas_50 rfl ?_
            refine va_get (D := (dC, dI)) (ci := 4) (v := .int (σ13.2.2 8)) (C := "TableauNodes$Things") (T := F_Th) (N := 15) hx hb hts in_Th hown hK hP 4 rfl rfl 6 (by decide) (hts _ tw_180) (fun _ h9 => h9) rfl d_Th_sayHas_51 ?_
            refine lv_iconst (v := 1) hx hb d_Th_sayHas_54 (by decide) ?_
            refine lv_iadd hx hb d_Th_sayHas_55 ?_
            refine va_put (D := (dC, dI)) (ci := 4) (v := .int ((σ13.2.2 8) + 1)) (ty := .int) (C := "TableauNodes$Things") (T := F_Th) (N := 15) hx hb hts in_Th ty_Th tk_Th nm_Th hown hK hP hD hS 4 rfl rfl 6 (by decide) (hts _ tw_180) (fun _ h9 => h9) rfl (by decide +kernel) rfl rfl (Nat.le_of_ble_eq_true rfl) d_Th_sayHas_56 (fun H locs hP hD hS => ?_)
            obtain ⟨σ14, eσ14, hg⟩ := tq_lj_s hg
            replace hP : va_P (dC, dI) tq_cl (wo cI cL cZ ad σ14) H := by rw [eσ14, ← ws_f8]; exact hP
            replace hD : va_D A (wo cI cL cZ ad σ14) := by rw [eσ14, ← ws_f8]; exact hD
            refine lv_aload_n hx hb d_Th_sayHas_59 rfl (lv_at hl 0 rfl) ?_
            refine va_get (D := (dC, dI)) (ci := 4) (v := .int (σ14.2.2 8)) (C := "TableauNodes$Things") (T := F_Th) (N := 15) hx hb hts in_Th hown hK hP 4 rfl rfl 6 (by decide) (hts _ tw_180) (fun _ h9 => h9) rfl d_Th_sayHas_60 ?_
            exact W.iret (v := (σ14.2.2 8)) hx hb hr (fun t ht hW => ⟨⟨(σ14.2.2 8), σ14, rfl, tq_grI hg hn, by rw [ht]; exact hP, va_K.moved hW.alike hK, hD⟩, hS.F ht⟩) hS.2.2 d_Th_sayHas_63
          · replace hg := tq_if_n c9 hg
            refine lv_bipush (v := (-3)) hx hb d_Th_sayHas_25 (by decide) ?_
            exact W.iret (v := (-3)) hx hb hr (fun t ht hW => ⟨⟨(-3), σ8, rfl, tq_grI hg hn, by rw [ht]; exact hP, va_K.moved hW.alike hK, hD⟩, hS.F ht⟩) hS.2.2 d_Th_sayHas_27
  exact (key n0) hP hD hS hl h0
noncomputable def bk_Th_clear_0 : List Int32 → List Int64 → tq_S → Option tq_C
  | [], [], σ => some (2, [0], [], σ)
  | _, _, _ => none
noncomputable def bk_Th_clear_2 : List Int32 → List Int64 → tq_S → Option tq_C
  | [x1], [], σ => if 80 ≤ x1 then some (25, [0], [], σ) else tq_gd x1 80 (tq_lj (lput σ 4 x1.toNatClampNeg (-1)) (fun σ3 => tq_lj (x1 + 1) (fun v4 => some (2, [v4], [], σ3))))
  | _, _, _ => none
noncomputable def bk_Th_clear_25 : List Int32 → List Int64 → tq_S → Option tq_C
  | [x1], [], σ => if 25 ≤ x1 then tq_lj (fput σ 7 0) (fun σ6 => tq_lj (fput σ6 8 0) (fun σ7 => tq_lj (fput σ7 11 1) (fun σ8 => some (tq_rt, [], [], σ8)))) else tq_gd x1 25 (tq_lj (iput σ 13 x1.toNatClampNeg 0) (fun σ10 => tq_lj (x1 + 1) (fun v11 => some (25, [v11], [], σ10))))
  | _, _, _ => none
noncomputable def st_Th_clear (c : tq_C) : Option tq_C := if c.1 = 0 then bk_Th_clear_0 c.2.1 c.2.2.1 c.2.2.2 else if c.1 = 2 then bk_Th_clear_2 c.2.1 c.2.2.1 c.2.2.2 else if c.1 = 25 then bk_Th_clear_25 c.2.1 c.2.2.1 c.2.2.2 else none
set_option maxHeartbeats 40000000 in
set_option maxRecDepth 100000 in
theorem c_Th_clear (l : Launch) (dC : Nat → ClassId) (dI : Nat → Nat → Nat) (cI cL cZ : ClassId) (ad : Nat → Nat) (tt : Nat) (sz : Nat) (σ : tq_S) (σ' : tq_S) (hf : tq_fV st_Th_clear (0, [], [], σ) = some ((), σ')) : Met l y_Th_clear w_Th_clear ({ frames := 0, cells := 0, slots := 0, locals := 0 } : Room) (va_Pc [.ref (ad 4)] (tq_B dC dI cI cL cZ tt (wo cI cL cZ ad σ) sz)) (va_Qv (fun (u : tq_S) => u = σ') (tq_E dC dI cI cL cZ (wo cI cL cZ ad) (va_A (wo cI cL cZ ad σ) sz)) (va_A (wo cI cL cZ ad σ) sz)) 0 0 (va_A (wo cI cL cZ ad σ) sz) := by
  obtain ⟨n0, h0⟩ := tq_fV_to hf
  refine Met.ofW (cc := prog_5_method_9_code) (maxL := 2) (ret := none) (by decide) rfl ?_
  intro p e s m args below meth c s₁ B hml hv
  obtain ⟨rfl, hsz, hP, hK, hD0, hZ, hN⟩ := hv
  have hx := B.exec
  have hb := B.bytes
  have hr := B.returns
  have hts : ∀ w ∈ tq_T, w.before _ s = true := fun w h => atoms_spec (ws := w_Th_clear) B.pre w (List.mem_cons_of_mem _ h)
  have hown : s.vm.findClass "TableauNodes$Things" = some m.cls := findClass_of_methodNamed B.named
  have hlocks := B.notSynchronized
  subst hsz
  have hD := hD0.self (sz := s.heap.size)
  have hS : va_S (va_A (wo cI cL cZ ad σ) s.heap.size) s.heap s.heap [] := va_S.rf
  have hA : ∀ q : Nat, s.heap.size ≤ q → va_A (wo cI cL cZ ad σ) s.heap.size q := fun q h => Or.inr h
  generalize va_A (wo cI cL cZ ad σ) s.heap.size = A at hD hS hA hZ ⊢
  have hl := lv_entry ([.ref (ad 4)]) (n := 2) (Nat.le_of_ble_eq_true rfl)
  rw [lg_entry_eq]
  generalize (lg_sl ([.ref (ad 4)]) ++ List.replicate (2 - (lg_sl ([.ref (ad 4)])).length) Slot.unset).toArray = ls at hl ⊢
  have hl : lv_has ls 2 [(0, .ref (ad 4))] := hl
  have key : ∀ n : Nat, (∀ {σ : tq_S} {H : Heap} {locs : List Loc} {ls : Array Slot}, va_P (dC, dI) tq_cl (wo cI cL cZ ad σ) H → va_D A (wo cI cL cZ ad σ) → va_S A s.heap H locs → lv_has ls 2 [(0, .ref (ad 4))] → tq_go st_Th_clear n (0, [], [], σ) = some (tq_rt, [], [], σ') → W p l e (headSpec w_Th_clear ({ frames := 0, cells := 0, slots := 0, locals := 0 } : Room)).room s m ([.ref (ad 4)] : List Value).toArray below meth c H locs 0 0 (MQ below (va_Qv (fun (u : tq_S) => u = σ') (tq_E dC dI cI cL cZ (wo cI cL cZ ad) A) A) ([.ref (ad 4)] : List Value).toArray s 0 0 A) (F0 m 0 ls [])) ∧ (∀ {x1 : Int32} {σ : tq_S} {H : Heap} {locs : List Loc} {ls : Array Slot}, va_P (dC, dI) tq_cl (wo cI cL cZ ad σ) H → va_D A (wo cI cL cZ ad σ) → va_S A s.heap H locs → lv_has ls 2 [(0, .ref (ad 4)), (1, .int x1)] → tq_go st_Th_clear n (2, [x1], [], σ) = some (tq_rt, [], [], σ') → W p l e (headSpec w_Th_clear ({ frames := 0, cells := 0, slots := 0, locals := 0 } : Room)).room s m ([.ref (ad 4)] : List Value).toArray below meth c H locs 0 0 (MQ below (va_Qv (fun (u : tq_S) => u = σ') (tq_E dC dI cI cL cZ (wo cI cL cZ ad) A) A) ([.ref (ad 4)] : List Value).toArray s 0 0 A) (F0 m 2 ls [])) ∧ (∀ {x1 : Int32} {σ : tq_S} {H : Heap} {locs : List Loc} {ls : Array Slot}, va_P (dC, dI) tq_cl (wo cI cL cZ ad σ) H → va_D A (wo cI cL cZ ad σ) → va_S A s.heap H locs → lv_has ls 2 [(0, .ref (ad 4)), (1, .int x1)] → tq_go st_Th_clear n (25, [x1], [], σ) = some (tq_rt, [], [], σ') → W p l e (headSpec w_Th_clear ({ frames := 0, cells := 0, slots := 0, locals := 0 } : Room)).room s m ([.ref (ad 4)] : List Value).toArray below meth c H locs 0 0 (MQ below (va_Qv (fun (u : tq_S) => u = σ') (tq_E dC dI cI cL cZ (wo cI cL cZ ad) A) A) ([.ref (ad 4)] : List Value).toArray s 0 0 A) (F0 m 25 ls [])) := by
    intro n
    induction n with
    | zero => exact ⟨(fun _ _ _ _ h => by cases h), (fun _ _ _ _ h => by cases h), (fun _ _ _ _ h => by cases h)⟩
    | succ n ih =>
      refine ⟨?_, ?_, ?_⟩
      · intro  σ H locs ls hP hD hS hl h9
        obtain ⟨q9, hg, hn⟩ := tq_go_s h9 (show ¬ (0 : Nat) = tq_rt by decide)
        replace hg : bk_Th_clear_0 [] [] σ = some q9 := hg
        unfold bk_Th_clear_0 at hg
        refine lv_iconst (v := 0) hx hb d_Th_clear_0 (by decide) ?_
        refine lv_istore_n (lv' := [(1, .int 0), (0, .ref (ad 4))]) hx hb d_Th_clear_1 rfl hl (by decide) rfl (fun ls hl => ?_)
        exact ih.2.1 hP hD hS (lv_sub hl [1, 0] rfl) (tq_gi hg hn)
      · intro x1 σ H locs ls hP hD hS hl h9
        obtain ⟨q9, hg, hn⟩ := tq_go_s h9 (show ¬ (2 : Nat) = tq_rt by decide)
        replace hg : bk_Th_clear_2 [x1] [] σ = some q9 := hg
        unfold bk_Th_clear_2 at hg
        refine lv_iload_n hx hb d_Th_clear_2 rfl (lv_at hl 1 rfl) ?_
        refine lv_bipush (v := 80) hx hb d_Th_clear_3 (by decide) ?_
        refine lv_icmp_ge (tgt := 23) hx hb d_Th_clear_5 (by decide) (fun c1 => ?_) (fun c1 => ?_)
        · replace hg := tq_if_t c1 hg
          refine lv_iconst (v := 0) hx hb d_Th_clear_23 (by decide) ?_
          refine lv_istore_n (lv' := [(1, .int 0), (0, .ref (ad 4))]) hx hb d_Th_clear_24 rfl hl (by decide) rfl (fun ls hl => ?_)
          exact ih.2.2 hP hD hS (lv_sub hl [1, 0] rfl) (tq_gi hg hn)
        · replace hg := tq_if_f c1 hg
          refine lv_aload_n hx hb d_Th_clear_8 rfl (lv_at hl 0 rfl) ?_
          refine va_get (D := (dC, dI)) (ci := 4) (v := .ref (ad 23)) (C := "TableauNodes$Things") (T := F_Th) (N := 15) hx hb hts in_Th hown hK hP 4 rfl rfl 2 (by decide) (hts _ tw_176) (fun _ h9 => h9) rfl d_Th_clear_9 ?_
          refine lv_iload_n hx hb d_Th_clear_12 rfl (lv_at hl 1 rfl) ?_
          refine lv_ldc2 (v := (-1)) hx hb hown (hts _ tw_173) d_Th_clear_13 ?_
          obtain ⟨g2, hg⟩ := tq_gd_s hg
          refine va_last hx hb hK hP hD hS 23 1 rfl rfl g2 d_Th_clear_16 (fun H locs hP hD hS => ?_)
          obtain ⟨σ3, eσ3, hg⟩ := tq_lj_s hg
          replace hP : va_P (dC, dI) tq_cl (wo cI cL cZ ad σ3) H := by rw [eσ3, ← ws_l4]; exact hP
          replace hD : va_D A (wo cI cL cZ ad σ3) := by rw [eσ3, ← ws_l4]; exact hD
          obtain ⟨v4, ev4, hg⟩ := tq_lj_s hg
          refine lv_iinc (v := v4) (lv' := [(1, .int v4), (0, .ref (ad 4))]) hx hb d_Th_clear_17 hl (k := 1) rfl (by rw [ev4]; rfl) (by decide) rfl (fun ls hl => ?_)
          refine lv_goto (tgt := 2) hx hb d_Th_clear_20 (by decide) ?_
          exact ih.2.1 hP hD hS (lv_sub hl [1, 0] rfl) (tq_gi hg hn)
      · intro x1 σ H locs ls hP hD hS hl h9
        obtain ⟨q9, hg, hn⟩ := tq_go_s h9 (show ¬ (25 : Nat) = tq_rt by decide)
        replace hg : bk_Th_clear_25 [x1] [] σ = some q9 := hg
        unfold bk_Th_clear_25 at hg
        refine lv_iload_n hx hb d_Th_clear_25 rfl (lv_at hl 1 rfl) ?_
        refine lv_bipush (v := 25) hx hb d_Th_clear_26 (by decide) ?_
        refine lv_icmp_ge (tgt := 44) hx hb d_Th_clear_28 (by decide) (fun c5 => ?_) (fun c5 => ?_)
        · replace hg := tq_if_t c5 hg
          refine lv_aload_n hx hb d_Th_clear_44 rfl (lv_at hl 0 rfl) ?_
          refine lv_iconst (v := 0) hx hb d_Th_clear_45 (by decide) ?_
          refine va_put (D := (dC, dI)) (ci := 4) (v := .int 0) (ty := .int) (C := "TableauNodes$Things") (T := F_Th) (N := 15) hx hb hts in_Th ty_Th tk_Th nm_Th hown hK hP hD hS 4 rfl rfl 5 (by decide) (hts _ tw_179) (fun _ h9 => h9) rfl (by decide +kernel) rfl rfl (Nat.le_of_ble_eq_true rfl) d_Th_clear_46 (fun H locs hP hD hS => ?_)
          obtain ⟨σ6, eσ6, hg⟩ := tq_lj_s hg
          replace hP : va_P (dC, dI) tq_cl (wo cI cL cZ ad σ6) H := by rw [eσ6, ← ws_f7]; exact hP
          replace hD : va_D A (wo cI cL cZ ad σ6) := by rw [eσ6, ← ws_f7]; exact hD
          refine lv_aload_n hx hb d_Th_clear_49 rfl (lv_at hl 0 rfl) ?_
          refine lv_iconst (v := 0) hx hb d_Th_clear_50 (by decide) ?_
          refine va_put (D := (dC, dI)) (ci := 4) (v := .int 0) (ty := .int) (C := "TableauNodes$Things") (T := F_Th) (N := 15) hx hb hts in_Th ty_Th tk_Th nm_Th hown hK hP hD hS 4 rfl rfl 6 (by decide) (hts _ tw_180) (fun _ h9 => h9) rfl (by decide +kernel) rfl rfl (Nat.le_of_ble_eq_true rfl) d_Th_clear_51 (fun H locs hP hD hS => ?_)
          obtain ⟨σ7, eσ7, hg⟩ := tq_lj_s hg
          replace hP : va_P (dC, dI) tq_cl (wo cI cL cZ ad σ7) H := by rw [eσ7, ← ws_f8]; exact hP
          replace hD : va_D A (wo cI cL cZ ad σ7) := by rw [eσ7, ← ws_f8]; exact hD
          refine lv_aload_n hx hb d_Th_clear_54 rfl (lv_at hl 0 rfl) ?_
          refine lv_iconst (v := 1) hx hb d_Th_clear_55 (by decide) ?_
          refine va_put (D := (dC, dI)) (ci := 4) (v := .int 1) (ty := .boolean) (C := "TableauNodes$Things") (T := F_Th) (N := 15) hx hb hts in_Th ty_Th tk_Th nm_Th hown hK hP hD hS 4 rfl rfl 13 (by decide) (hts _ tw_187) (fun _ h9 => h9) rfl (by decide +kernel) rfl rfl (Nat.le_of_ble_eq_true rfl) d_Th_clear_56 (fun H locs hP hD hS => ?_)
          obtain ⟨σ8, eσ8, hg⟩ := tq_lj_s hg
          replace hP : va_P (dC, dI) tq_cl (wo cI cL cZ ad σ8) H := by rw [eσ8, ← ws_f11]; exact hP
          replace hD : va_D A (wo cI cL cZ ad σ8) := by rw [eσ8, ← ws_f11]; exact hD
          exact W.vret hx hb hr (fun t ht hW => ⟨⟨σ8, rfl, tq_grV hg hn, by rw [ht]; exact hP, va_K.moved hW.alike hK, hD⟩, hS.F ht⟩) hS.2.2 d_Th_clear_59
        · replace hg := tq_if_f c5 hg
          refine lv_aload_n hx hb d_Th_clear_31 rfl (lv_at hl 0 rfl) ?_
          refine va_get (D := (dC, dI)) (ci := 4) (v := .ref (ad 24)) (C := "TableauNodes$Things") (T := F_Th) (N := 15) hx hb hts in_Th hown hK hP 4 rfl rfl 3 (by decide) (hts _ tw_177) (fun _ h9 => h9) rfl d_Th_clear_32 ?_
          refine lv_iload_n hx hb d_Th_clear_35 rfl (lv_at hl 1 rfl) ?_
          refine lv_iconst (v := 0) hx hb d_Th_clear_36 (by decide) ?_
          obtain ⟨g9, hg⟩ := tq_gd_s hg
          refine va_iast hx hb hK hP hD hS 24 0 rfl rfl g9 d_Th_clear_37 (fun H locs hP hD hS => ?_)
          obtain ⟨σ10, eσ10, hg⟩ := tq_lj_s hg
          replace hP : va_P (dC, dI) tq_cl (wo cI cL cZ ad σ10) H := by rw [eσ10, ← ws_i13]; exact hP
          replace hD : va_D A (wo cI cL cZ ad σ10) := by rw [eσ10, ← ws_i13]; exact hD
          obtain ⟨v11, ev11, hg⟩ := tq_lj_s hg
          refine lv_iinc (v := v11) (lv' := [(1, .int v11), (0, .ref (ad 4))]) hx hb d_Th_clear_38 hl (k := 1) rfl (by rw [ev11]; rfl) (by decide) rfl (fun ls hl => ?_)
          refine lv_goto (tgt := 25) hx hb d_Th_clear_41 (by decide) ?_
          exact ih.2.2 hP hD hS (lv_sub hl [1, 0] rfl) (tq_gi hg hn)
  exact (key n0).1 hP hD hS hl h0
noncomputable def bk_Th_forgetAll_0 : List Int32 → List Int64 → tq_S → Option tq_C
  | [], [], σ => tq_lj ((σ.2.2 7) + (σ.2.2 8)) (fun v1 => tq_ob (tq_fV st_Th_clear (0, [], [], σ)) (fun _ σ4 => some (tq_rt, [v1], [], σ4)))
  | _, _, _ => none
noncomputable def st_Th_forgetAll (c : tq_C) : Option tq_C := if c.1 = 0 then bk_Th_forgetAll_0 c.2.1 c.2.2.1 c.2.2.2 else none
set_option maxHeartbeats 40000000 in
set_option maxRecDepth 100000 in
theorem c_Th_forgetAll (l : Launch) (dC : Nat → ClassId) (dI : Nat → Nat → Nat) (cI cL cZ : ClassId) (ad : Nat → Nat) (tt : Nat) (sz : Nat) (σ : tq_S) (r : Int32) (σ' : tq_S) (hf : tq_fI st_Th_forgetAll (0, [], [], σ) = some (r, σ')) : Met l y_Th_forgetAll w_Th_forgetAll ({ frames := 1, cells := 0, slots := 0, locals := 21 } : Room) (va_Pc [.ref (ad 4)] (tq_B dC dI cI cL cZ tt (wo cI cL cZ ad σ) sz)) (va_Qi (fun (r' : Int32) (u : tq_S) => r' = r ∧ u = σ') (tq_E dC dI cI cL cZ (wo cI cL cZ ad) (va_A (wo cI cL cZ ad σ) sz)) (va_A (wo cI cL cZ ad σ) sz)) 0 0 (va_A (wo cI cL cZ ad σ) sz) := by
  obtain ⟨n0, h0⟩ := tq_fI_to hf
  refine Met.ofW (cc := prog_5_method_4_code) (maxL := 2) (ret := (some .int)) (by decide) rfl ?_
  intro p e s m args below meth c s₁ B hml hv
  obtain ⟨rfl, hsz, hP, hK, hD0, hZ, hN⟩ := hv
  have hx := B.exec
  have hb := B.bytes
  have hr := B.returns
  have hts : ∀ w ∈ tq_T, w.before _ s = true := fun w h => atoms_spec (ws := w_Th_forgetAll) B.pre w (List.mem_cons_of_mem _ h)
  have hown : s.vm.findClass "TableauNodes$Things" = some m.cls := findClass_of_methodNamed B.named
  have hlocks := B.notSynchronized
  subst hsz
  have hD := hD0.self (sz := s.heap.size)
  have hS : va_S (va_A (wo cI cL cZ ad σ) s.heap.size) s.heap s.heap [] := va_S.rf
  have hA : ∀ q : Nat, s.heap.size ≤ q → va_A (wo cI cL cZ ad σ) s.heap.size q := fun q h => Or.inr h
  generalize va_A (wo cI cL cZ ad σ) s.heap.size = A at hD hS hA hZ ⊢
  have hl := lv_entry ([.ref (ad 4)]) (n := 2) (Nat.le_of_ble_eq_true rfl)
  rw [lg_entry_eq]
  generalize (lg_sl ([.ref (ad 4)]) ++ List.replicate (2 - (lg_sl ([.ref (ad 4)])).length) Slot.unset).toArray = ls at hl ⊢
  have hl : lv_has ls 2 [(0, .ref (ad 4))] := hl
  have key : ∀ n : Nat, (∀ {σ : tq_S} {H : Heap} {locs : List Loc} {ls : Array Slot}, va_P (dC, dI) tq_cl (wo cI cL cZ ad σ) H → va_D A (wo cI cL cZ ad σ) → va_S A s.heap H locs → lv_has ls 2 [(0, .ref (ad 4))] → tq_go st_Th_forgetAll n (0, [], [], σ) = some (tq_rt, [r], [], σ') → W p l e (headSpec w_Th_forgetAll ({ frames := 1, cells := 0, slots := 0, locals := 21 } : Room)).room s m ([.ref (ad 4)] : List Value).toArray below meth c H locs 0 0 (MQ below (va_Qi (fun (r' : Int32) (u : tq_S) => r' = r ∧ u = σ') (tq_E dC dI cI cL cZ (wo cI cL cZ ad) A) A) ([.ref (ad 4)] : List Value).toArray s 0 0 A) (F0 m 0 ls [])) := by
    intro n
    induction n with
    | zero => exact fun _ _ _ _ h => by cases h
    | succ n ih =>
      intro  σ H locs ls hP hD hS hl h9
      obtain ⟨q9, hg, hn⟩ := tq_go_s h9 (show ¬ (0 : Nat) = tq_rt by decide)
      replace hg : bk_Th_forgetAll_0 [] [] σ = some q9 := hg
      unfold bk_Th_forgetAll_0 at hg
      refine lv_aload_n hx hb d_Th_forgetAll_0 rfl (lv_at hl 0 rfl) ?_
      refine va_get (D := (dC, dI)) (ci := 4) (v := .int (σ.2.2 7)) (C := "TableauNodes$Things") (T := F_Th) (N := 15) hx hb hts in_Th hown hK hP 4 rfl rfl 5 (by decide) (hts _ tw_179) (fun _ h9 => h9) rfl d_Th_forgetAll_1 ?_
      refine lv_aload_n hx hb d_Th_forgetAll_4 rfl (lv_at hl 0 rfl) ?_
      refine va_get (D := (dC, dI)) (ci := 4) (v := .int (σ.2.2 8)) (C := "TableauNodes$Things") (T := F_Th) (N := 15) hx hb hts in_Th hown hK hP 4 rfl rfl 6 (by decide) (hts _ tw_180) (fun _ h9 => h9) rfl d_Th_forgetAll_5 ?_
      refine lv_iadd hx hb d_Th_forgetAll_8 ?_
      obtain ⟨v1, ev1, hg⟩ := tq_lj_s hg
      refine tq_nmi ev1 ?_
      refine lv_istore_n (lv' := [(1, .int v1), (0, .ref (ad 4))]) hx hb d_Th_forgetAll_9 rfl hl (by decide) rfl (fun ls hl => ?_)
      refine lv_aload_n hx hb d_Th_forgetAll_10 rfl (lv_at hl 1 rfl) ?_
      obtain ⟨⟨⟩, σ4, f2, hg⟩ := tq_ob_s hg
      refine tq_aV (va_runV (As := []) (rest := []) ⟨hx, hb, hml, hown, hts⟩ (c_Th_clear l dC dI cI cL cZ ad tt H.size σ    σ4 f2) (cwV 0 hts (tq_gV tw_169 tw_171 ts_6 tw_5 tw_172) rfl rfl rfl (by decide +kernel) ⟨Nat.le_of_ble_eq_true rfl, Nat.le_of_ble_eq_true rfl⟩) ⟨tq_bl, va_recv hK hP (ci := 4) (q0 := 4) rfl rfl, (tq_pr hP hK hD hS hA hZ hN)⟩ rfl rfl hl.1 rfl (lv_room (Nat.le_of_ble_eq_true rfl)) d_Th_forgetAll_11 ⟨Nat.zero_le _, Nat.zero_le _⟩) hD hS hA (fun H locs hP hD hS => ?_)
      refine lv_iload_n hx hb d_Th_forgetAll_14 rfl (lv_at hl 0 rfl) ?_
      exact W.iret (v := v1) hx hb hr (fun t ht hW => ⟨⟨v1, σ4, rfl, tq_grI hg hn, by rw [ht]; exact hP, va_K.moved hW.alike hK, hD⟩, hS.F ht⟩) hS.2.2 d_Th_forgetAll_15
  exact (key n0) hP hD hS hl h0
noncomputable def bk_Th_sortLinks_0 : List Int32 → List Int64 → tq_S → Option tq_C
  | [], [], σ => some (2, [0], [], σ)
  | _, _, _ => none
noncomputable def bk_Th_sortLinks_2 : List Int32 → List Int64 → tq_S → Option tq_C
  | [x1], [], σ => if 25 ≤ x1 then some (tq_rt, [], [], σ) else tq_gd x1 25 (tq_lj (iput σ 14 x1.toNatClampNeg 0) (fun σ3 => some (17, [x1, 0], [], σ3)))
  | _, _, _ => none
noncomputable def bk_Th_sortLinks_17 : List Int32 → List Int64 → tq_S → Option tq_C
  | [x1, x2], [], σ => if 4 ≤ x2 then tq_lj (x1 + 1) (fun v5 => some (2, [v5], [], σ)) else tq_gd x1 25 (tq_gd x1 25 (tq_ob (tq_fI st_Tn_hasBit (0, [x2], [(ia σ 13 x1).toInt64], σ)) (fun r9 σ10 => if r9 = 0 then tq_gd x1 25 (tq_lj (iput σ10 14 x1.toNatClampNeg ((ia σ 14 x1) ||| 0)) (fun σ13 => tq_lj (x2 + 1) (fun v14 => some (17, [x1, v14], [], σ13)))) else tq_ob (tq_fI st_Go_watched (0, [x2], [], σ10)) (fun r16 σ17 => tq_gd x1 25 (tq_lj (iput σ17 14 x1.toNatClampNeg ((ia σ 14 x1) ||| r16)) (fun σ19 => tq_lj (x2 + 1) (fun v20 => some (17, [x1, v20], [], σ19))))))))
  | _, _, _ => none
noncomputable def st_Th_sortLinks (c : tq_C) : Option tq_C := if c.1 = 0 then bk_Th_sortLinks_0 c.2.1 c.2.2.1 c.2.2.2 else if c.1 = 2 then bk_Th_sortLinks_2 c.2.1 c.2.2.1 c.2.2.2 else if c.1 = 17 then bk_Th_sortLinks_17 c.2.1 c.2.2.1 c.2.2.2 else none
set_option maxHeartbeats 40000000 in
set_option maxRecDepth 100000 in
theorem c_Th_sortLinks (l : Launch) (dC : Nat → ClassId) (dI : Nat → Nat → Nat) (cI cL cZ : ClassId) (ad : Nat → Nat) (tt : Nat) (sz : Nat) (σ : tq_S) (σ' : tq_S) (hf : tq_fV st_Th_sortLinks (0, [], [], σ) = some ((), σ')) : Met l y_Th_sortLinks w_Th_sortLinks ({ frames := 2, cells := 0, slots := 0, locals := 42 } : Room) (va_Pc [.ref (ad 4)] (tq_B dC dI cI cL cZ tt (wo cI cL cZ ad σ) sz)) (va_Qv (fun (u : tq_S) => u = σ') (tq_E dC dI cI cL cZ (wo cI cL cZ ad) (va_A (wo cI cL cZ ad σ) sz)) (va_A (wo cI cL cZ ad σ) sz)) 0 0 (va_A (wo cI cL cZ ad σ) sz) := by
  obtain ⟨n0, h0⟩ := tq_fV_to hf
  refine Met.ofW (cc := prog_5_method_10_code) (maxL := 3) (ret := none) (by decide) rfl ?_
  intro p e s m args below meth c s₁ B hml hv
  obtain ⟨rfl, hsz, hP, hK, hD0, hZ, hN⟩ := hv
  have hx := B.exec
  have hb := B.bytes
  have hr := B.returns
  have hts : ∀ w ∈ tq_T, w.before _ s = true := fun w h => atoms_spec (ws := w_Th_sortLinks) B.pre w (List.mem_cons_of_mem _ h)
  have hown : s.vm.findClass "TableauNodes$Things" = some m.cls := findClass_of_methodNamed B.named
  have hlocks := B.notSynchronized
  subst hsz
  have hD := hD0.self (sz := s.heap.size)
  have hS : va_S (va_A (wo cI cL cZ ad σ) s.heap.size) s.heap s.heap [] := va_S.rf
  have hA : ∀ q : Nat, s.heap.size ≤ q → va_A (wo cI cL cZ ad σ) s.heap.size q := fun q h => Or.inr h
  generalize va_A (wo cI cL cZ ad σ) s.heap.size = A at hD hS hA hZ ⊢
  have hl := lv_entry ([.ref (ad 4)]) (n := 3) (Nat.le_of_ble_eq_true rfl)
  rw [lg_entry_eq]
  generalize (lg_sl ([.ref (ad 4)]) ++ List.replicate (3 - (lg_sl ([.ref (ad 4)])).length) Slot.unset).toArray = ls at hl ⊢
  have hl : lv_has ls 3 [(0, .ref (ad 4))] := hl
  have key : ∀ n : Nat, (∀ {σ : tq_S} {H : Heap} {locs : List Loc} {ls : Array Slot}, va_P (dC, dI) tq_cl (wo cI cL cZ ad σ) H → va_D A (wo cI cL cZ ad σ) → va_S A s.heap H locs → lv_has ls 3 [(0, .ref (ad 4))] → tq_go st_Th_sortLinks n (0, [], [], σ) = some (tq_rt, [], [], σ') → W p l e (headSpec w_Th_sortLinks ({ frames := 2, cells := 0, slots := 0, locals := 42 } : Room)).room s m ([.ref (ad 4)] : List Value).toArray below meth c H locs 0 0 (MQ below (va_Qv (fun (u : tq_S) => u = σ') (tq_E dC dI cI cL cZ (wo cI cL cZ ad) A) A) ([.ref (ad 4)] : List Value).toArray s 0 0 A) (F0 m 0 ls [])) ∧ (∀ {x1 : Int32} {σ : tq_S} {H : Heap} {locs : List Loc} {ls : Array Slot}, va_P (dC, dI) tq_cl (wo cI cL cZ ad σ) H → va_D A (wo cI cL cZ ad σ) → va_S A s.heap H locs → lv_has ls 3 [(0, .ref (ad 4)), (1, .int x1)] → tq_go st_Th_sortLinks n (2, [x1], [], σ) = some (tq_rt, [], [], σ') → W p l e (headSpec w_Th_sortLinks ({ frames := 2, cells := 0, slots := 0, locals := 42 } : Room)).room s m ([.ref (ad 4)] : List Value).toArray below meth c H locs 0 0 (MQ below (va_Qv (fun (u : tq_S) => u = σ') (tq_E dC dI cI cL cZ (wo cI cL cZ ad) A) A) ([.ref (ad 4)] : List Value).toArray s 0 0 A) (F0 m 2 ls [])) ∧ (∀ {x1 x2 : Int32} {σ : tq_S} {H : Heap} {locs : List Loc} {ls : Array Slot}, va_P (dC, dI) tq_cl (wo cI cL cZ ad σ) H → va_D A (wo cI cL cZ ad σ) → va_S A s.heap H locs → lv_has ls 3 [(0, .ref (ad 4)), (1, .int x1), (2, .int x2)] → tq_go st_Th_sortLinks n (17, [x1, x2], [], σ) = some (tq_rt, [], [], σ') → W p l e (headSpec w_Th_sortLinks ({ frames := 2, cells := 0, slots := 0, locals := 42 } : Room)).room s m ([.ref (ad 4)] : List Value).toArray below meth c H locs 0 0 (MQ below (va_Qv (fun (u : tq_S) => u = σ') (tq_E dC dI cI cL cZ (wo cI cL cZ ad) A) A) ([.ref (ad 4)] : List Value).toArray s 0 0 A) (F0 m 17 ls [])) := by
    intro n
    induction n with
    | zero => exact ⟨(fun _ _ _ _ h => by cases h), (fun _ _ _ _ h => by cases h), (fun _ _ _ _ h => by cases h)⟩
    | succ n ih =>
      refine ⟨?_, ?_, ?_⟩
      · intro  σ H locs ls hP hD hS hl h9
        obtain ⟨q9, hg, hn⟩ := tq_go_s h9 (show ¬ (0 : Nat) = tq_rt by decide)
        replace hg : bk_Th_sortLinks_0 [] [] σ = some q9 := hg
        unfold bk_Th_sortLinks_0 at hg
        refine lv_iconst (v := 0) hx hb d_Th_sortLinks_0 (by decide) ?_
        refine lv_istore_n (lv' := [(1, .int 0), (0, .ref (ad 4))]) hx hb d_Th_sortLinks_1 rfl hl (by decide) rfl (fun ls hl => ?_)
        exact ih.2.1 hP hD hS (lv_sub hl [1, 0] rfl) (tq_gi hg hn)
      · intro x1 σ H locs ls hP hD hS hl h9
        obtain ⟨q9, hg, hn⟩ := tq_go_s h9 (show ¬ (2 : Nat) = tq_rt by decide)
        replace hg : bk_Th_sortLinks_2 [x1] [] σ = some q9 := hg
        unfold bk_Th_sortLinks_2 at hg
        refine lv_iload_n hx hb d_Th_sortLinks_2 rfl (lv_at hl 1 rfl) ?_
        refine lv_bipush (v := 25) hx hb d_Th_sortLinks_3 (by decide) ?_
        refine lv_icmp_ge (tgt := 69) hx hb d_Th_sortLinks_5 (by decide) (fun c1 => ?_) (fun c1 => ?_)
        · replace hg := tq_if_t c1 hg
          exact W.vret hx hb hr (fun t ht hW => ⟨⟨σ, rfl, tq_grV hg hn, by rw [ht]; exact hP, va_K.moved hW.alike hK, hD⟩, hS.F ht⟩) hS.2.2 d_Th_sortLinks_69
        · replace hg := tq_if_f c1 hg
          refine lv_aload_n hx hb d_Th_sortLinks_8 rfl (lv_at hl 0 rfl) ?_
          refine va_get (D := (dC, dI)) (ci := 4) (v := .ref (ad 25)) (C := "TableauNodes$Things") (T := F_Th) (N := 15) hx hb hts in_Th hown hK hP 4 rfl rfl 4 (by decide) (hts _ tw_178) (fun _ h9 => h9) rfl d_Th_sortLinks_9 ?_
          refine lv_iload_n hx hb d_Th_sortLinks_12 rfl (lv_at hl 1 rfl) ?_
          refine lv_iconst (v := 0) hx hb d_Th_sortLinks_13 (by decide) ?_
          obtain ⟨g2, hg⟩ := tq_gd_s hg
          refine va_iast hx hb hK hP hD hS 25 0 rfl rfl g2 d_Th_sortLinks_14 (fun H locs hP hD hS => ?_)
          obtain ⟨σ3, eσ3, hg⟩ := tq_lj_s hg
          replace hP : va_P (dC, dI) tq_cl (wo cI cL cZ ad σ3) H := by rw [eσ3, ← ws_i14]; exact hP
          replace hD : va_D A (wo cI cL cZ ad σ3) := by rw [eσ3, ← ws_i14]; exact hD
          refine lv_iconst (v := 0) hx hb d_Th_sortLinks_15 (by decide) ?_
          refine lv_istore_n (lv' := [(2, .int 0), (0, .ref (ad 4)), (1, .int x1)]) hx hb d_Th_sortLinks_16 rfl hl (by decide) rfl (fun ls hl => ?_)
          exact ih.2.2 hP hD hS (lv_sub hl [1, 2, 0] rfl) (tq_gi hg hn)
      · intro x1 x2 σ H locs ls hP hD hS hl h9
        obtain ⟨q9, hg, hn⟩ := tq_go_s h9 (show ¬ (17 : Nat) = tq_rt by decide)
        replace hg : bk_Th_sortLinks_17 [x1, x2] [] σ = some q9 := hg
        unfold bk_Th_sortLinks_17 at hg
        refine lv_iload_n hx hb d_Th_sortLinks_17 rfl (lv_at hl 2 rfl) ?_
        refine lv_iconst (v := 4) hx hb d_Th_sortLinks_18 (by decide) ?_
        refine lv_icmp_ge (tgt := 63) hx hb d_Th_sortLinks_19 (by decide) (fun c4 => ?_) (fun c4 => ?_)
        · replace hg := tq_if_t c4 hg
          obtain ⟨v5, ev5, hg⟩ := tq_lj_s hg
          refine lv_iinc (v := v5) (lv' := [(1, .int v5), (0, .ref (ad 4)), (2, .int x2)]) hx hb d_Th_sortLinks_63 hl (k := 1) rfl (by rw [ev5]; rfl) (by decide) rfl (fun ls hl => ?_)
          refine lv_goto (tgt := 2) hx hb d_Th_sortLinks_66 (by decide) ?_
          exact ih.2.1 hP hD hS (lv_sub hl [1, 0] rfl) (tq_gi hg hn)
        · replace hg := tq_if_f c4 hg
          refine lv_aload_n hx hb d_Th_sortLinks_22 rfl (lv_at hl 0 rfl) ?_
          refine va_get (D := (dC, dI)) (ci := 4) (v := .ref (ad 25)) (C := "TableauNodes$Things") (T := F_Th) (N := 15) hx hb hts in_Th hown hK hP 4 rfl rfl 4 (by decide) (hts _ tw_178) (fun _ h9 => h9) rfl d_Th_sortLinks_23 ?_
          refine lv_iload_n hx hb d_Th_sortLinks_26 rfl (lv_at hl 1 rfl) ?_
          refine lv_dup2_11 hx hb d_Th_sortLinks_27 rfl rfl ?_
          obtain ⟨g6, hg⟩ := tq_gd_s hg
          refine va_iald hx hb hK hP 25 0 rfl rfl g6 d_Th_sortLinks_28 ?_
          refine lv_aload_n hx hb d_Th_sortLinks_29 rfl (lv_at hl 0 rfl) ?_
          refine va_get (D := (dC, dI)) (ci := 4) (v := .ref (ad 24)) (C := "TableauNodes$Things") (T := F_Th) (N := 15) hx hb hts in_Th hown hK hP 4 rfl rfl 3 (by decide) (hts _ tw_177) (fun _ h9 => h9) rfl d_Th_sortLinks_30 ?_
          refine lv_iload_n hx hb d_Th_sortLinks_33 rfl (lv_at hl 1 rfl) ?_
          obtain ⟨g7, hg⟩ := tq_gd_s hg
          refine va_iald hx hb hK hP 24 0 rfl rfl g7 d_Th_sortLinks_34 ?_
          refine lv_i2l hx hb d_Th_sortLinks_35 rfl ?_
          refine lv_iload_n hx hb d_Th_sortLinks_36 rfl (lv_at hl 2 rfl) ?_
          obtain ⟨r9, σ10, f8, hg⟩ := tq_ob_s hg
          refine tq_aI (va_runSN (As := [.long ((ia σ 13 x1).toInt64), .int x2]) (rest := [.int (ia σ 14 x1), .int x1, .ref (ad 25)]) ⟨hx, hb, hml, hown, hts⟩ (c_Tn_hasBit l dC dI cI cL cZ ad tt H.size σ x2 ((ia σ 13 x1).toInt64) r9 σ10 f8) ⟨va_cnB 2 hts (tq_gC tw_62) rfl rfl rfl (hN _ (List.mem_of_getElem? (i := 8) rfl)) (hts _ tw_1) (by decide +kernel) ⟨Nat.le_of_ble_eq_true rfl, Nat.le_of_ble_eq_true rfl⟩, hts _ tw_61, trivial⟩ ⟨tq_bl, (tq_pr hP hK hD hS hA hZ hN)⟩ rfl rfl hl.1 rfl (lv_room (Nat.le_of_ble_eq_true rfl)) d_Th_sortLinks_37 ⟨Nat.zero_le _, Nat.zero_le _⟩) hD hS hA (fun H locs hP hD hS => ?_)
          refine lv_if_eq (tgt := 54) hx hb d_Th_sortLinks_40 (by decide) (fun c11 => ?_) (fun c11 => ?_)
          · replace hg := tq_if_t c11 hg
            refine lv_iconst (v := 0) hx hb d_Th_sortLinks_54 (by decide) ?_
            refine lv_ior hx hb d_Th_sortLinks_55 ?_
            obtain ⟨g12, hg⟩ := tq_gd_s hg
            refine va_iast hx hb hK hP hD hS 25 0 rfl rfl g12 d_Th_sortLinks_56 (fun H locs hP hD hS => ?_)
            obtain ⟨σ13, eσ13, hg⟩ := tq_lj_s hg
            replace hP : va_P (dC, dI) tq_cl (wo cI cL cZ ad σ13) H := by rw [eσ13, ← ws_i14]; exact hP
            replace hD : va_D A (wo cI cL cZ ad σ13) := by rw [eσ13, ← ws_i14]; exact hD
            obtain ⟨v14, ev14, hg⟩ := tq_lj_s hg
            refine lv_iinc (v := v14) (lv' := [(2, .int v14), (0, .ref (ad 4)), (1, .int x1)]) hx hb d_Th_sortLinks_57 hl (k := 2) rfl (by rw [ev14]; rfl) (by decide) rfl (fun ls hl => ?_)
            refine lv_goto (tgt := 17) hx hb d_Th_sortLinks_60 (by decide) ?_
            exact ih.2.2 hP hD hS (lv_sub hl [1, 2, 0] rfl) (tq_gi hg hn)
          · replace hg := tq_if_f c11 hg
            refine lv_aload_n hx hb d_Th_sortLinks_43 rfl (lv_at hl 0 rfl) ?_
            refine va_get (D := (dC, dI)) (ci := 4) (v := .ref (ad 3)) (C := "TableauNodes$Things") (T := F_Th) (N := 15) hx hb hts in_Th hown hK hP 4 rfl rfl 1 (by decide) (hts _ tw_175) (fun _ h9 => h9) rfl d_Th_sortLinks_44 ?_
            refine lv_iload_n hx hb d_Th_sortLinks_47 rfl (lv_at hl 2 rfl) ?_
            obtain ⟨r16, σ17, f15, hg⟩ := tq_ob_s hg
            refine tq_aI (va_runV (As := [.int x2]) (rest := [.int (ia σ 14 x1), .int x1, .ref (ad 25)]) ⟨hx, hb, hml, hown, hts⟩ (c_Go_watched l dC dI cI cL cZ ad tt H.size σ10 x2  r16 σ17 f15) (cwV 1 hts (tq_gV tw_483 tw_484 tw_485 tw_4 tw_486) rfl rfl rfl (by decide +kernel) ⟨Nat.le_of_ble_eq_true rfl, Nat.le_of_ble_eq_true rfl⟩) ⟨tq_bl, va_recv hK hP (ci := 3) (q0 := 3) rfl rfl, (tq_pr hP hK hD hS hA hZ hN)⟩ rfl rfl hl.1 rfl (lv_room (Nat.le_of_ble_eq_true rfl)) d_Th_sortLinks_48 ⟨Nat.zero_le _, Nat.zero_le _⟩) hD hS hA (fun H locs hP hD hS => ?_)
            refine lv_goto (tgt := 55) hx hb d_Th_sortLinks_51 (by decide) ?_
            refine lv_ior hx hb d_Th_sortLinks_55 ?_
            obtain ⟨g18, hg⟩ := tq_gd_s hg
            refine va_iast hx hb hK hP hD hS 25 0 rfl rfl g18 d_Th_sortLinks_56 (fun H locs hP hD hS => ?_)
            obtain ⟨σ19, eσ19, hg⟩ := tq_lj_s hg
            replace hP : va_P (dC, dI) tq_cl (wo cI cL cZ ad σ19) H := by rw [eσ19, ← ws_i14]; exact hP
            replace hD : va_D A (wo cI cL cZ ad σ19) := by rw [eσ19, ← ws_i14]; exact hD
            obtain ⟨v20, ev20, hg⟩ := tq_lj_s hg
            refine lv_iinc (v := v20) (lv' := [(2, .int v20), (0, .ref (ad 4)), (1, .int x1)]) hx hb d_Th_sortLinks_57 hl (k := 2) rfl (by rw [ev20]; rfl) (by decide) rfl (fun ls hl => ?_)
            refine lv_goto (tgt := 17) hx hb d_Th_sortLinks_60 (by decide) ?_
            exact ih.2.2 hP hD hS (lv_sub hl [1, 2, 0] rfl) (tq_gi hg hn)
  exact (key n0).1 hP hD hS hl h0
noncomputable def bk_Th_seeingThemselves_0 : List Int32 → List Int64 → tq_S → Option tq_C
  | [x3, x4], [y1], σ => some (6, [x3, x4, 0], [y1], σ)
  | _, _, _ => none
noncomputable def bk_Th_seeingThemselves_6 : List Int32 → List Int64 → tq_S → Option tq_C
  | [x3, x4, x7], [y5], σ => if 10 ≤ x7 then some (tq_rt, [], [y5], σ) else if (lg_cmp y5 0) = 0 then some (tq_rt, [], [y5], σ) else tq_ob (tq_fI st_Tn_hasBit (0, [x7], [x3.toInt64], σ)) (fun r4 σ5 => if r4 = 0 then tq_lj (x7 + 1) (fun v7 => some (6, [x3, x4, v7], [y5], σ5)) else tq_ob (tq_fL st_Co_atomWord (0, [x7, x4], [], σ5)) (fun r9 σ10 => tq_ob (tq_fL st_Co_innerWord (0, [x7, x4], [], σ10)) (fun r12 σ13 => tq_lj (y5 &&& (r9 ||| (r12 ^^^ (-1)))) (fun v14 => tq_lj (x7 + 1) (fun v15 => some (6, [x3, x4, v15], [v14], σ13))))))
  | _, _, _ => none
noncomputable def st_Th_seeingThemselves (c : tq_C) : Option tq_C := if c.1 = 0 then bk_Th_seeingThemselves_0 c.2.1 c.2.2.1 c.2.2.2 else if c.1 = 6 then bk_Th_seeingThemselves_6 c.2.1 c.2.2.1 c.2.2.2 else none
set_option maxHeartbeats 40000000 in
set_option maxRecDepth 100000 in
theorem c_Th_seeingThemselves (l : Launch) (dC : Nat → ClassId) (dI : Nat → Nat → Nat) (cI cL cZ : ClassId) (ad : Nat → Nat) (tt : Nat) (sz : Nat) (σ : tq_S) (a3 : Int32) (a4 : Int32) (b1 : Int64) (r : Int64) (σ' : tq_S) (hf : tq_fL st_Th_seeingThemselves (0, [a3, a4], [b1], σ) = some (r, σ')) : Met l y_Th_seeingThemselves w_Th_seeingThemselves ({ frames := 1, cells := 0, slots := 0, locals := 23 } : Room) (va_Pc [.ref (ad 4), .long b1, .int a3, .int a4] (tq_B dC dI cI cL cZ tt (wo cI cL cZ ad σ) sz)) (va_Ql (fun (r' : Int64) (u : tq_S) => r' = r ∧ u = σ') (tq_E dC dI cI cL cZ (wo cI cL cZ ad) (va_A (wo cI cL cZ ad σ) sz)) (va_A (wo cI cL cZ ad σ) sz)) 0 0 (va_A (wo cI cL cZ ad σ) sz) := by
  obtain ⟨n0, h0⟩ := tq_fL_to hf
  refine Met.ofW (cc := prog_5_method_12_code) (maxL := 8) (ret := (some .long)) (by decide) rfl ?_
  intro p e s m args below meth c s₁ B hml hv
  obtain ⟨rfl, hsz, hP, hK, hD0, hZ, hN⟩ := hv
  have hx := B.exec
  have hb := B.bytes
  have hr := B.returns
  have hts : ∀ w ∈ tq_T, w.before _ s = true := fun w h => atoms_spec (ws := w_Th_seeingThemselves) B.pre w (List.mem_cons_of_mem _ h)
  have hown : s.vm.findClass "TableauNodes$Things" = some m.cls := findClass_of_methodNamed B.named
  have hlocks := B.notSynchronized
  subst hsz
  have hD := hD0.self (sz := s.heap.size)
  have hS : va_S (va_A (wo cI cL cZ ad σ) s.heap.size) s.heap s.heap [] := va_S.rf
  have hA : ∀ q : Nat, s.heap.size ≤ q → va_A (wo cI cL cZ ad σ) s.heap.size q := fun q h => Or.inr h
  generalize va_A (wo cI cL cZ ad σ) s.heap.size = A at hD hS hA hZ ⊢
  have hl := lv_entry ([.ref (ad 4), .long b1, .int a3, .int a4]) (n := 8) (Nat.le_of_ble_eq_true rfl)
  rw [lg_entry_eq]
  generalize (lg_sl ([.ref (ad 4), .long b1, .int a3, .int a4]) ++ List.replicate (8 - (lg_sl ([.ref (ad 4), .long b1, .int a3, .int a4])).length) Slot.unset).toArray = ls at hl ⊢
  have hl : lv_has ls 8 [(0, .ref (ad 4)), (1, .long b1), (3, .int a3), (4, .int a4)] := hl
  have key : ∀ n : Nat, (∀ {x3 x4 : Int32} {y1 : Int64} {σ : tq_S} {H : Heap} {locs : List Loc} {ls : Array Slot}, va_P (dC, dI) tq_cl (wo cI cL cZ ad σ) H → va_D A (wo cI cL cZ ad σ) → va_S A s.heap H locs → lv_has ls 8 [(0, .ref (ad 4)), (1, .long y1), (3, .int x3), (4, .int x4)] → tq_go st_Th_seeingThemselves n (0, [x3, x4], [y1], σ) = some (tq_rt, [], [r], σ') → W p l e (headSpec w_Th_seeingThemselves ({ frames := 1, cells := 0, slots := 0, locals := 23 } : Room)).room s m ([.ref (ad 4), .long b1, .int a3, .int a4] : List Value).toArray below meth c H locs 0 0 (MQ below (va_Ql (fun (r' : Int64) (u : tq_S) => r' = r ∧ u = σ') (tq_E dC dI cI cL cZ (wo cI cL cZ ad) A) A) ([.ref (ad 4), .long b1, .int a3, .int a4] : List Value).toArray s 0 0 A) (F0 m 0 ls [])) ∧ (∀ {x3 x4 x7 : Int32} {y5 : Int64} {σ : tq_S} {H : Heap} {locs : List Loc} {ls : Array Slot}, va_P (dC, dI) tq_cl (wo cI cL cZ ad σ) H → va_D A (wo cI cL cZ ad σ) → va_S A s.heap H locs → lv_has ls 8 [(0, .ref (ad 4)), (3, .int x3), (4, .int x4), (5, .long y5), (7, .int x7)] → tq_go st_Th_seeingThemselves n (6, [x3, x4, x7], [y5], σ) = some (tq_rt, [], [r], σ') → W p l e (headSpec w_Th_seeingThemselves ({ frames := 1, cells := 0, slots := 0, locals := 23 } : Room)).room s m ([.ref (ad 4), .long b1, .int a3, .int a4] : List Value).toArray below meth c H locs 0 0 (MQ below (va_Ql (fun (r' : Int64) (u : tq_S) => r' = r ∧ u = σ') (tq_E dC dI cI cL cZ (wo cI cL cZ ad) A) A) ([.ref (ad 4), .long b1, .int a3, .int a4] : List Value).toArray s 0 0 A) (F0 m 6 ls [])) := by
    intro n
    induction n with
    | zero => exact ⟨(fun _ _ _ _ h => by cases h), (fun _ _ _ _ h => by cases h)⟩
    | succ n ih =>
      refine ⟨?_, ?_⟩
      · intro x3 x4 y1 σ H locs ls hP hD hS hl h9
        obtain ⟨q9, hg, hn⟩ := tq_go_s h9 (show ¬ (0 : Nat) = tq_rt by decide)
        replace hg : bk_Th_seeingThemselves_0 [x3, x4] [y1] σ = some q9 := hg
        unfold bk_Th_seeingThemselves_0 at hg
        refine lv_lload_n hx hb d_Th_seeingThemselves_0 rfl (lv_at hl 1 rfl) ?_
        refine lv_lstore (lv' := [(5, .long y1), (0, .ref (ad 4)), (1, .long y1), (3, .int x3), (4, .int x4)]) hx hb d_Th_seeingThemselves_1 hl (by decide) rfl (fun ls hl => ?_)
        refine lv_iconst (v := 0) hx hb d_Th_seeingThemselves_3 (by decide) ?_
        refine lv_istore (lv' := [(7, .int 0), (5, .long y1), (0, .ref (ad 4)), (1, .long y1), (3, .int x3), (4, .int x4)]) hx hb d_Th_seeingThemselves_4 hl (by decide) rfl (fun ls hl => ?_)
        exact ih.2 hP hD hS (lv_sub hl [2, 4, 5, 1, 0] rfl) (tq_gi hg hn)
      · intro x3 x4 x7 y5 σ H locs ls hP hD hS hl h9
        obtain ⟨q9, hg, hn⟩ := tq_go_s h9 (show ¬ (6 : Nat) = tq_rt by decide)
        replace hg : bk_Th_seeingThemselves_6 [x3, x4, x7] [y5] σ = some q9 := hg
        unfold bk_Th_seeingThemselves_6 at hg
        refine lv_iload hx hb d_Th_seeingThemselves_6 (lv_at hl 4 rfl) ?_
        refine lv_bipush (v := 10) hx hb d_Th_seeingThemselves_8 (by decide) ?_
        refine lv_icmp_ge (tgt := 68) hx hb d_Th_seeingThemselves_10 (by decide) (fun c1 => ?_) (fun c1 => ?_)
        · replace hg := tq_if_t c1 hg
          refine lv_lload hx hb d_Th_seeingThemselves_68 (lv_at hl 3 rfl) ?_
          exact W.lret (v := y5) hx hb hr (fun t ht hW => ⟨⟨y5, σ, rfl, tq_grL hg hn, by rw [ht]; exact hP, va_K.moved hW.alike hK, hD⟩, hS.F ht⟩) hS.2.2 d_Th_seeingThemselves_70
        · replace hg := tq_if_f c1 hg
          refine lv_lload hx hb d_Th_seeingThemselves_13 (lv_at hl 3 rfl) ?_
          refine lv_lconst (v := 0) hx hb d_Th_seeingThemselves_15 (by decide) ?_
          refine W.lcmp hx hb d_Th_seeingThemselves_16 ?_
          refine lv_if_eq (tgt := 68) hx hb d_Th_seeingThemselves_17 (by decide) (fun c2 => ?_) (fun c2 => ?_)
          · replace hg := tq_if_t c2 hg
            refine lv_lload hx hb d_Th_seeingThemselves_68 (lv_at hl 3 rfl) ?_
            exact W.lret (v := y5) hx hb hr (fun t ht hW => ⟨⟨y5, σ, rfl, tq_grL hg hn, by rw [ht]; exact hP, va_K.moved hW.alike hK, hD⟩, hS.F ht⟩) hS.2.2 d_Th_seeingThemselves_70
          · replace hg := tq_if_f c2 hg
            refine lv_iload_n hx hb d_Th_seeingThemselves_20 rfl (lv_at hl 1 rfl) ?_
            refine lv_i2l hx hb d_Th_seeingThemselves_21 rfl ?_
            refine lv_iload hx hb d_Th_seeingThemselves_22 (lv_at hl 4 rfl) ?_
            obtain ⟨r4, σ5, f3, hg⟩ := tq_ob_s hg
            refine tq_aI (va_runSN (As := [.long x3.toInt64, .int x7]) (rest := []) ⟨hx, hb, hml, hown, hts⟩ (c_Tn_hasBit l dC dI cI cL cZ ad tt H.size σ x7 x3.toInt64 r4 σ5 f3) ⟨va_cnB 2 hts (tq_gC tw_62) rfl rfl rfl (hN _ (List.mem_of_getElem? (i := 8) rfl)) (hts _ tw_1) (by decide +kernel) ⟨Nat.le_of_ble_eq_true rfl, Nat.le_of_ble_eq_true rfl⟩, hts _ tw_61, trivial⟩ ⟨tq_bl, (tq_pr hP hK hD hS hA hZ hN)⟩ rfl rfl hl.1 rfl (lv_room (Nat.le_of_ble_eq_true rfl)) d_Th_seeingThemselves_24 ⟨Nat.zero_le _, Nat.zero_le _⟩) hD hS hA (fun H locs hP hD hS => ?_)
            refine lv_if_eq (tgt := 62) hx hb d_Th_seeingThemselves_27 (by decide) (fun c6 => ?_) (fun c6 => ?_)
            · replace hg := tq_if_t c6 hg
              obtain ⟨v7, ev7, hg⟩ := tq_lj_s hg
              refine lv_iinc (v := v7) (lv' := [(7, .int v7), (0, .ref (ad 4)), (3, .int x3), (4, .int x4), (5, .long y5)]) hx hb d_Th_seeingThemselves_62 hl (k := 4) rfl (by rw [ev7]; rfl) (by decide) rfl (fun ls hl => ?_)
              refine lv_goto (tgt := 6) hx hb d_Th_seeingThemselves_65 (by decide) ?_
              exact ih.2 hP hD hS (lv_sub hl [1, 2, 3, 4, 0] rfl) (tq_gi hg hn)
            · replace hg := tq_if_f c6 hg
              refine lv_lload hx hb d_Th_seeingThemselves_30 (lv_at hl 3 rfl) ?_
              refine lv_aload_n hx hb d_Th_seeingThemselves_32 rfl (lv_at hl 0 rfl) ?_
              refine va_get (D := (dC, dI)) (ci := 4) (v := .ref (ad 1)) (C := "TableauNodes$Things") (T := F_Th) (N := 15) hx hb hts in_Th hown hK hP 4 rfl rfl 0 (by decide) (hts _ tw_174) (fun _ h9 => h9) rfl d_Th_seeingThemselves_33 ?_
              refine lv_iload hx hb d_Th_seeingThemselves_36 (lv_at hl 4 rfl) ?_
              refine lv_iload hx hb d_Th_seeingThemselves_38 (lv_at hl 2 rfl) ?_
              obtain ⟨r9, σ10, f8, hg⟩ := tq_ob_s hg
              refine tq_aL (va_runV (As := [.int x7, .int x4]) (rest := [.long y5]) ⟨hx, hb, hml, hown, hts⟩ (c_Co_atomWord l dC dI cI cL cZ ad tt H.size σ5 x7 x4  r9 σ10 f8) (cwV 2 hts (tq_gV tw_503 tw_43 tw_44 tw_2 tw_45) rfl rfl rfl (by decide +kernel) ⟨Nat.le_of_ble_eq_true rfl, Nat.le_of_ble_eq_true rfl⟩) ⟨tq_bl, va_recv hK hP (ci := 1) (q0 := 1) rfl rfl, (tq_pr hP hK hD hS hA hZ hN)⟩ rfl rfl hl.1 rfl (lv_room (Nat.le_of_ble_eq_true rfl)) d_Th_seeingThemselves_40 ⟨Nat.zero_le _, Nat.zero_le _⟩) hD hS hA (fun H locs hP hD hS => ?_)
              refine lv_aload_n hx hb d_Th_seeingThemselves_43 rfl (lv_at hl 0 rfl) ?_
              refine va_get (D := (dC, dI)) (ci := 4) (v := .ref (ad 1)) (C := "TableauNodes$Things") (T := F_Th) (N := 15) hx hb hts in_Th hown hK hP 4 rfl rfl 0 (by decide) (hts _ tw_174) (fun _ h9 => h9) rfl d_Th_seeingThemselves_44 ?_
              refine lv_iload hx hb d_Th_seeingThemselves_47 (lv_at hl 4 rfl) ?_
              refine lv_iload hx hb d_Th_seeingThemselves_49 (lv_at hl 2 rfl) ?_
              obtain ⟨r12, σ13, f11, hg⟩ := tq_ob_s hg
              refine tq_aL (va_runV (As := [.int x7, .int x4]) (rest := [.long r9, .long y5]) ⟨hx, hb, hml, hown, hts⟩ (c_Co_innerWord l dC dI cI cL cZ ad tt H.size σ10 x7 x4  r12 σ13 f11) (cwV 2 hts (tq_gV tw_504 tw_505 tw_506 tw_2 tw_507) rfl rfl rfl (by decide +kernel) ⟨Nat.le_of_ble_eq_true rfl, Nat.le_of_ble_eq_true rfl⟩) ⟨tq_bl, va_recv hK hP (ci := 1) (q0 := 1) rfl rfl, (tq_pr hP hK hD hS hA hZ hN)⟩ rfl rfl hl.1 rfl (lv_room (Nat.le_of_ble_eq_true rfl)) d_Th_seeingThemselves_51 ⟨Nat.zero_le _, Nat.zero_le _⟩) hD hS hA (fun H locs hP hD hS => ?_)
              refine lv_ldc2 (v := (-1)) hx hb hown (hts _ tw_173) d_Th_seeingThemselves_54 ?_
              refine lv_lxor hx hb d_Th_seeingThemselves_57 ?_
              refine lv_lor hx hb d_Th_seeingThemselves_58 ?_
              refine lv_land hx hb d_Th_seeingThemselves_59 ?_
              obtain ⟨v14, ev14, hg⟩ := tq_lj_s hg
              refine tq_nml ev14 ?_
              refine lv_lstore (lv' := [(5, .long v14), (0, .ref (ad 4)), (3, .int x3), (4, .int x4), (7, .int x7)]) hx hb d_Th_seeingThemselves_60 hl (by decide) rfl (fun ls hl => ?_)
              obtain ⟨v15, ev15, hg⟩ := tq_lj_s hg
              refine lv_iinc (v := v15) (lv' := [(7, .int v15), (5, .long v14), (0, .ref (ad 4)), (3, .int x3), (4, .int x4)]) hx hb d_Th_seeingThemselves_62 hl (k := 4) rfl (by rw [ev15]; rfl) (by decide) rfl (fun ls hl => ?_)
              refine lv_goto (tgt := 6) hx hb d_Th_seeingThemselves_65 (by decide) ?_
              exact ih.2 hP hD hS (lv_sub hl [2, 3, 4, 1, 0] rfl) (tq_gi hg hn)
  exact (key n0).1 hP hD hS hl h0
noncomputable def bk_Th_begin_0 : List Int32 → List Int64 → tq_S → Option tq_C
  | [], [], σ => tq_ob (tq_fI st_Co_wordCount (0, [], [], σ)) (fun r2 σ3 => tq_lj (fput σ3 9 (jmin r2 16)) (fun σ4 => some (18, [0], [], σ4)))
  | _, _, _ => none
noncomputable def bk_Th_begin_18 : List Int32 → List Int64 → tq_S → Option tq_C
  | [x1], [], σ => if 5 ≤ x1 then some (tq_rt, [], [], σ) else tq_gd ((x1 * 5) + x1) 25 (tq_lj (ia σ 14 ((x1 * 5) + x1)) (fun v7 => some (36, [x1, v7, 0], [], σ)))
  | _, _, _ => none
noncomputable def bk_Th_begin_36 : List Int32 → List Int64 → tq_S → Option tq_C
  | [x1, x2, x3], [], σ => if (σ.2.2 9) ≤ x3 then tq_lj (x1 + 1) (fun v9 => some (18, [v9], [], σ)) else tq_ob (tq_fL st_Go_word (0, [x3], [], σ)) (fun r11 σ12 => tq_gd ((x1 * 16) + x3) 80 (tq_lj (r11 &&& (la σ12 4 ((x1 * 16) + x3))) (fun v14 => tq_ob (tq_fL st_Th_seeingThemselves (0, [x2, x3], [v14], σ12)) (fun r16 σ17 => tq_gd ((x1 * 16) + x3) 400 (tq_lj (lput σ17 5 ((x1 * 16) + x3).toNatClampNeg r16) (fun σ19 => tq_lj (x3 + 1) (fun v20 => some (36, [x1, x2, v20], [], σ19))))))))
  | _, _, _ => none
noncomputable def st_Th_begin (c : tq_C) : Option tq_C := if c.1 = 0 then bk_Th_begin_0 c.2.1 c.2.2.1 c.2.2.2 else if c.1 = 18 then bk_Th_begin_18 c.2.1 c.2.2.1 c.2.2.2 else if c.1 = 36 then bk_Th_begin_36 c.2.1 c.2.2.1 c.2.2.2 else none
set_option maxHeartbeats 40000000 in
set_option maxRecDepth 100000 in
theorem c_Th_begin (l : Launch) (dC : Nat → ClassId) (dI : Nat → Nat → Nat) (cI cL cZ : ClassId) (ad : Nat → Nat) (tt : Nat) (sz : Nat) (σ : tq_S) (σ' : tq_S) (hf : tq_fV st_Th_begin (0, [], [], σ) = some ((), σ')) : Met l y_Th_begin w_Th_begin ({ frames := 2, cells := 0, slots := 0, locals := 50 } : Room) (va_Pc [.ref (ad 4)] (tq_B dC dI cI cL cZ tt (wo cI cL cZ ad σ) sz)) (va_Qv (fun (u : tq_S) => u = σ') (tq_E dC dI cI cL cZ (wo cI cL cZ ad) (va_A (wo cI cL cZ ad σ) sz)) (va_A (wo cI cL cZ ad σ) sz)) 0 0 (va_A (wo cI cL cZ ad σ) sz) := by
  obtain ⟨n0, h0⟩ := tq_fV_to hf
  refine Met.ofW (cc := prog_5_method_11_code) (maxL := 6) (ret := none) (by decide) rfl ?_
  intro p e s m args below meth c s₁ B hml hv
  obtain ⟨rfl, hsz, hP, hK, hD0, hZ, hN⟩ := hv
  have hx := B.exec
  have hb := B.bytes
  have hr := B.returns
  have hts : ∀ w ∈ tq_T, w.before _ s = true := fun w h => atoms_spec (ws := w_Th_begin) B.pre w (List.mem_cons_of_mem _ h)
  have hown : s.vm.findClass "TableauNodes$Things" = some m.cls := findClass_of_methodNamed B.named
  have hlocks := B.notSynchronized
  subst hsz
  have hD := hD0.self (sz := s.heap.size)
  have hS : va_S (va_A (wo cI cL cZ ad σ) s.heap.size) s.heap s.heap [] := va_S.rf
  have hA : ∀ q : Nat, s.heap.size ≤ q → va_A (wo cI cL cZ ad σ) s.heap.size q := fun q h => Or.inr h
  generalize va_A (wo cI cL cZ ad σ) s.heap.size = A at hD hS hA hZ ⊢
  have hl := lv_entry ([.ref (ad 4)]) (n := 6) (Nat.le_of_ble_eq_true rfl)
  rw [lg_entry_eq]
  generalize (lg_sl ([.ref (ad 4)]) ++ List.replicate (6 - (lg_sl ([.ref (ad 4)])).length) Slot.unset).toArray = ls at hl ⊢
  have hl : lv_has ls 6 [(0, .ref (ad 4))] := hl
  have key : ∀ n : Nat, (∀ {σ : tq_S} {H : Heap} {locs : List Loc} {ls : Array Slot}, va_P (dC, dI) tq_cl (wo cI cL cZ ad σ) H → va_D A (wo cI cL cZ ad σ) → va_S A s.heap H locs → lv_has ls 6 [(0, .ref (ad 4))] → tq_go st_Th_begin n (0, [], [], σ) = some (tq_rt, [], [], σ') → W p l e (headSpec w_Th_begin ({ frames := 2, cells := 0, slots := 0, locals := 50 } : Room)).room s m ([.ref (ad 4)] : List Value).toArray below meth c H locs 0 0 (MQ below (va_Qv (fun (u : tq_S) => u = σ') (tq_E dC dI cI cL cZ (wo cI cL cZ ad) A) A) ([.ref (ad 4)] : List Value).toArray s 0 0 A) (F0 m 0 ls [])) ∧ (∀ {x1 : Int32} {σ : tq_S} {H : Heap} {locs : List Loc} {ls : Array Slot}, va_P (dC, dI) tq_cl (wo cI cL cZ ad σ) H → va_D A (wo cI cL cZ ad σ) → va_S A s.heap H locs → lv_has ls 6 [(0, .ref (ad 4)), (1, .int x1)] → tq_go st_Th_begin n (18, [x1], [], σ) = some (tq_rt, [], [], σ') → W p l e (headSpec w_Th_begin ({ frames := 2, cells := 0, slots := 0, locals := 50 } : Room)).room s m ([.ref (ad 4)] : List Value).toArray below meth c H locs 0 0 (MQ below (va_Qv (fun (u : tq_S) => u = σ') (tq_E dC dI cI cL cZ (wo cI cL cZ ad) A) A) ([.ref (ad 4)] : List Value).toArray s 0 0 A) (F0 m 18 ls [])) ∧ (∀ {x1 x2 x3 : Int32} {σ : tq_S} {H : Heap} {locs : List Loc} {ls : Array Slot}, va_P (dC, dI) tq_cl (wo cI cL cZ ad σ) H → va_D A (wo cI cL cZ ad σ) → va_S A s.heap H locs → lv_has ls 6 [(0, .ref (ad 4)), (1, .int x1), (2, .int x2), (3, .int x3)] → tq_go st_Th_begin n (36, [x1, x2, x3], [], σ) = some (tq_rt, [], [], σ') → W p l e (headSpec w_Th_begin ({ frames := 2, cells := 0, slots := 0, locals := 50 } : Room)).room s m ([.ref (ad 4)] : List Value).toArray below meth c H locs 0 0 (MQ below (va_Qv (fun (u : tq_S) => u = σ') (tq_E dC dI cI cL cZ (wo cI cL cZ ad) A) A) ([.ref (ad 4)] : List Value).toArray s 0 0 A) (F0 m 36 ls [])) := by
    intro n
    induction n with
    | zero => exact ⟨(fun _ _ _ _ h => by cases h), (fun _ _ _ _ h => by cases h), (fun _ _ _ _ h => by cases h)⟩
    | succ n ih =>
      refine ⟨?_, ?_, ?_⟩
      · intro  σ H locs ls hP hD hS hl h9
        obtain ⟨q9, hg, hn⟩ := tq_go_s h9 (show ¬ (0 : Nat) = tq_rt by decide)
        replace hg : bk_Th_begin_0 [] [] σ = some q9 := hg
        unfold bk_Th_begin_0 at hg
        refine lv_aload_n hx hb d_Th_begin_0 rfl (lv_at hl 0 rfl) ?_
        refine lv_aload_n hx hb d_Th_begin_1 rfl (lv_at hl 0 rfl) ?_
        refine va_get (D := (dC, dI)) (ci := 4) (v := .ref (ad 1)) (C := "TableauNodes$Things") (T := F_Th) (N := 15) hx hb hts in_Th hown hK hP 4 rfl rfl 0 (by decide) (hts _ tw_174) (fun _ h9 => h9) rfl d_Th_begin_2 ?_
        obtain ⟨r2, σ3, f1, hg⟩ := tq_ob_s hg
        refine tq_aI (va_runV (As := []) (rest := [.ref (ad 4)]) ⟨hx, hb, hml, hown, hts⟩ (c_Co_wordCount l dC dI cI cL cZ ad tt H.size σ   r2 σ3 f1) (cwV 0 hts (tq_gV tw_491 tw_339 tw_340 tw_2 tw_341) rfl rfl rfl (by decide +kernel) ⟨Nat.le_of_ble_eq_true rfl, Nat.le_of_ble_eq_true rfl⟩) ⟨tq_bl, va_recv hK hP (ci := 1) (q0 := 1) rfl rfl, (tq_pr hP hK hD hS hA hZ hN)⟩ rfl rfl hl.1 rfl (lv_room (Nat.le_of_ble_eq_true rfl)) d_Th_begin_5 ⟨Nat.zero_le _, Nat.zero_le _⟩) hD hS hA (fun H locs hP hD hS => ?_)
        refine lv_bipush (v := 16) hx hb d_Th_begin_8 (by decide) ?_
        refine va_mmin hx hb (hml.trans hl.1.symm) hown (hts _ tw_492) (hts _ tw_493) (hts _ tw_9) (hts _ tw_494) (Nat.le_of_ble_eq_true rfl) (Nat.le_of_ble_eq_true rfl) (Nat.zero_le _) (Nat.zero_le _) d_Th_begin_10 ?_
        refine va_put (D := (dC, dI)) (ci := 4) (v := .int (jmin r2 16)) (ty := .int) (C := "TableauNodes$Things") (T := F_Th) (N := 15) hx hb hts in_Th ty_Th tk_Th nm_Th hown hK hP hD hS 4 rfl rfl 10 (by decide) (hts _ tw_184) (fun _ h9 => h9) rfl (by decide +kernel) rfl rfl (Nat.le_of_ble_eq_true rfl) d_Th_begin_13 (fun H locs hP hD hS => ?_)
        obtain ⟨σ4, eσ4, hg⟩ := tq_lj_s hg
        replace hP : va_P (dC, dI) tq_cl (wo cI cL cZ ad σ4) H := by rw [eσ4, ← ws_f9]; exact hP
        replace hD : va_D A (wo cI cL cZ ad σ4) := by rw [eσ4, ← ws_f9]; exact hD
        refine lv_iconst (v := 0) hx hb d_Th_begin_16 (by decide) ?_
        refine lv_istore_n (lv' := [(1, .int 0), (0, .ref (ad 4))]) hx hb d_Th_begin_17 rfl hl (by decide) rfl (fun ls hl => ?_)
        exact ih.2.1 hP hD hS (lv_sub hl [1, 0] rfl) (tq_gi hg hn)
      · intro x1 σ H locs ls hP hD hS hl h9
        obtain ⟨q9, hg, hn⟩ := tq_go_s h9 (show ¬ (18 : Nat) = tq_rt by decide)
        replace hg : bk_Th_begin_18 [x1] [] σ = some q9 := hg
        unfold bk_Th_begin_18 at hg
        refine lv_iload_n hx hb d_Th_begin_18 rfl (lv_at hl 1 rfl) ?_
        refine lv_iconst (v := 5) hx hb d_Th_begin_19 (by decide) ?_
        refine lv_icmp_ge (tgt := 97) hx hb d_Th_begin_20 (by decide) (fun c5 => ?_) (fun c5 => ?_)
        · replace hg := tq_if_t c5 hg
          exact W.vret hx hb hr (fun t ht hW => ⟨⟨σ, rfl, tq_grV hg hn, by rw [ht]; exact hP, va_K.moved hW.alike hK, hD⟩, hS.F ht⟩) hS.2.2 d_Th_begin_97
        · replace hg := tq_if_f c5 hg
          refine lv_aload_n hx hb d_Th_begin_23 rfl (lv_at hl 0 rfl) ?_
          refine va_get (D := (dC, dI)) (ci := 4) (v := .ref (ad 25)) (C := "TableauNodes$Things") (T := F_Th) (N := 15) hx hb hts in_Th hown hK hP 4 rfl rfl 4 (by decide) (hts _ tw_178) (fun _ h9 => h9) rfl d_Th_begin_24 ?_
          refine lv_iload_n hx hb d_Th_begin_27 rfl (lv_at hl 1 rfl) ?_
          refine lv_iconst (v := 5) hx hb d_Th_begin_28 (by decide) ?_
          refine lv_imul hx hb d_Th_begin_29 ?_
          refine lv_iload_n hx hb d_Th_begin_30 rfl (lv_at hl 1 rfl) ?_
          refine lv_iadd hx hb d_Th_begin_31 ?_
          obtain ⟨g6, hg⟩ := tq_gd_s hg
          refine va_iald hx hb hK hP 25 0 rfl rfl g6 d_Th_begin_32 ?_
          obtain ⟨v7, ev7, hg⟩ := tq_lj_s hg
          refine tq_nmi ev7 ?_
          refine lv_istore_n (lv' := [(2, .int v7), (0, .ref (ad 4)), (1, .int x1)]) hx hb d_Th_begin_33 rfl hl (by decide) rfl (fun ls hl => ?_)
          refine lv_iconst (v := 0) hx hb d_Th_begin_34 (by decide) ?_
          refine lv_istore_n (lv' := [(3, .int 0), (2, .int v7), (0, .ref (ad 4)), (1, .int x1)]) hx hb d_Th_begin_35 rfl hl (by decide) rfl (fun ls hl => ?_)
          exact ih.2.2 hP hD hS (lv_sub hl [2, 3, 1, 0] rfl) (tq_gi hg hn)
      · intro x1 x2 x3 σ H locs ls hP hD hS hl h9
        obtain ⟨q9, hg, hn⟩ := tq_go_s h9 (show ¬ (36 : Nat) = tq_rt by decide)
        replace hg : bk_Th_begin_36 [x1, x2, x3] [] σ = some q9 := hg
        unfold bk_Th_begin_36 at hg
        refine lv_iload_n hx hb d_Th_begin_36 rfl (lv_at hl 3 rfl) ?_
        refine lv_aload_n hx hb d_Th_begin_37 rfl (lv_at hl 0 rfl) ?_
        refine va_get (D := (dC, dI)) (ci := 4) (v := .int (σ.2.2 9)) (C := "TableauNodes$Things") (T := F_Th) (N := 15) hx hb hts in_Th hown hK hP 4 rfl rfl 10 (by decide) (hts _ tw_184) (fun _ h9 => h9) rfl d_Th_begin_38 ?_
        refine lv_icmp_ge (tgt := 91) hx hb d_Th_begin_41 (by decide) (fun c8 => ?_) (fun c8 => ?_)
        · replace hg := tq_if_t c8 hg
          obtain ⟨v9, ev9, hg⟩ := tq_lj_s hg
          refine lv_iinc (v := v9) (lv' := [(1, .int v9), (0, .ref (ad 4)), (2, .int x2), (3, .int x3)]) hx hb d_Th_begin_91 hl (k := 1) rfl (by rw [ev9]; rfl) (by decide) rfl (fun ls hl => ?_)
          refine lv_goto (tgt := 18) hx hb d_Th_begin_94 (by decide) ?_
          exact ih.2.1 hP hD hS (lv_sub hl [1, 0] rfl) (tq_gi hg hn)
        · replace hg := tq_if_f c8 hg
          refine lv_aload_n hx hb d_Th_begin_44 rfl (lv_at hl 0 rfl) ?_
          refine va_get (D := (dC, dI)) (ci := 4) (v := .ref (ad 3)) (C := "TableauNodes$Things") (T := F_Th) (N := 15) hx hb hts in_Th hown hK hP 4 rfl rfl 1 (by decide) (hts _ tw_175) (fun _ h9 => h9) rfl d_Th_begin_45 ?_
          refine lv_iload_n hx hb d_Th_begin_48 rfl (lv_at hl 3 rfl) ?_
          obtain ⟨r11, σ12, f10, hg⟩ := tq_ob_s hg
          refine tq_aL (va_runV (As := [.int x3]) (rest := []) ⟨hx, hb, hml, hown, hts⟩ (c_Go_word l dC dI cI cL cZ ad tt H.size σ x3  r11 σ12 f10) (cwV 1 hts (tq_gV tw_495 tw_496 tw_497 tw_4 tw_498) rfl rfl rfl (by decide +kernel) ⟨Nat.le_of_ble_eq_true rfl, Nat.le_of_ble_eq_true rfl⟩) ⟨tq_bl, va_recv hK hP (ci := 3) (q0 := 3) rfl rfl, (tq_pr hP hK hD hS hA hZ hN)⟩ rfl rfl hl.1 rfl (lv_room (Nat.le_of_ble_eq_true rfl)) d_Th_begin_49 ⟨Nat.zero_le _, Nat.zero_le _⟩) hD hS hA (fun H locs hP hD hS => ?_)
          refine lv_aload_n hx hb d_Th_begin_52 rfl (lv_at hl 0 rfl) ?_
          refine va_get (D := (dC, dI)) (ci := 4) (v := .ref (ad 23)) (C := "TableauNodes$Things") (T := F_Th) (N := 15) hx hb hts in_Th hown hK hP 4 rfl rfl 2 (by decide) (hts _ tw_176) (fun _ h9 => h9) rfl d_Th_begin_53 ?_
          refine lv_iload_n hx hb d_Th_begin_56 rfl (lv_at hl 1 rfl) ?_
          refine lv_bipush (v := 16) hx hb d_Th_begin_57 (by decide) ?_
          refine lv_imul hx hb d_Th_begin_59 ?_
          refine lv_iload_n hx hb d_Th_begin_60 rfl (lv_at hl 3 rfl) ?_
          refine lv_iadd hx hb d_Th_begin_61 ?_
          obtain ⟨g13, hg⟩ := tq_gd_s hg
          refine va_lald hx hb hK hP 23 1 rfl rfl g13 d_Th_begin_62 ?_
          refine lv_land hx hb d_Th_begin_63 ?_
          obtain ⟨v14, ev14, hg⟩ := tq_lj_s hg
          refine tq_nml ev14 ?_
          refine lv_lstore (lv' := [(4, .long v14), (0, .ref (ad 4)), (1, .int x1), (2, .int x2), (3, .int x3)]) hx hb d_Th_begin_64 hl (by decide) rfl (fun ls hl => ?_)
          refine lv_aload_n hx hb d_Th_begin_66 rfl (lv_at hl 1 rfl) ?_
          refine va_get (D := (dC, dI)) (ci := 4) (v := .ref (ad 26)) (C := "TableauNodes$Things") (T := F_Th) (N := 15) hx hb hts in_Th hown hK hP 4 rfl rfl 7 (by decide) (hts _ tw_181) (fun _ h9 => h9) rfl d_Th_begin_67 ?_
          refine lv_iload_n hx hb d_Th_begin_70 rfl (lv_at hl 2 rfl) ?_
          refine lv_bipush (v := 16) hx hb d_Th_begin_71 (by decide) ?_
          refine lv_imul hx hb d_Th_begin_73 ?_
          refine lv_iload_n hx hb d_Th_begin_74 rfl (lv_at hl 4 rfl) ?_
          refine lv_iadd hx hb d_Th_begin_75 ?_
          refine lv_aload_n hx hb d_Th_begin_76 rfl (lv_at hl 1 rfl) ?_
          refine lv_lload hx hb d_Th_begin_77 (lv_at hl 0 rfl) ?_
          refine lv_iload_n hx hb d_Th_begin_79 rfl (lv_at hl 3 rfl) ?_
          refine lv_iload_n hx hb d_Th_begin_80 rfl (lv_at hl 4 rfl) ?_
          obtain ⟨r16, σ17, f15, hg⟩ := tq_ob_s hg
          refine tq_aL (va_runV (As := [.long v14, .int x2, .int x3]) (rest := [.int ((x1 * 16) + x3), .ref (ad 26)]) ⟨hx, hb, hml, hown, hts⟩ (c_Th_seeingThemselves l dC dI cI cL cZ ad tt H.size σ12 x2 x3 v14 r16 σ17 f15) (cwV 3 hts (tq_gV tw_499 tw_501 ts_18 tw_5 tw_502) rfl rfl rfl (by decide +kernel) ⟨Nat.le_of_ble_eq_true rfl, Nat.le_of_ble_eq_true rfl⟩) ⟨tq_bl, va_recv hK hP (ci := 4) (q0 := 4) rfl rfl, (tq_pr hP hK hD hS hA hZ hN)⟩ rfl rfl hl.1 rfl (lv_room (Nat.le_of_ble_eq_true rfl)) d_Th_begin_81 ⟨Nat.zero_le _, Nat.zero_le _⟩) hD hS hA (fun H locs hP hD hS => ?_)
          obtain ⟨g18, hg⟩ := tq_gd_s hg
          refine va_last hx hb hK hP hD hS 26 1 rfl rfl g18 d_Th_begin_84 (fun H locs hP hD hS => ?_)
          obtain ⟨σ19, eσ19, hg⟩ := tq_lj_s hg
          replace hP : va_P (dC, dI) tq_cl (wo cI cL cZ ad σ19) H := by rw [eσ19, ← ws_l5]; exact hP
          replace hD : va_D A (wo cI cL cZ ad σ19) := by rw [eσ19, ← ws_l5]; exact hD
          obtain ⟨v20, ev20, hg⟩ := tq_lj_s hg
          refine lv_iinc (v := v20) (lv' := [(3, .int v20), (4, .long v14), (0, .ref (ad 4)), (1, .int x1), (2, .int x2)]) hx hb d_Th_begin_85 hl (k := 4) rfl (by rw [ev20]; rfl) (by decide) rfl (fun ls hl => ?_)
          refine lv_goto (tgt := 36) hx hb d_Th_begin_88 (by decide) ?_
          exact ih.2.2 hP hD hS (lv_sub hl [2, 3, 4, 0] rfl) (tq_gi hg hn)
  exact (key n0).1 hP hD hS hl h0
noncomputable def bk_Th_countLeft_0 : List Int32 → List Int64 → tq_S → Option tq_C
  | [x1, x2], [], σ => tq_lj ((x1 * 80) + (x2 * 16)) (fun v1 => some (16, [v1, 0, 0], [], σ))
  | _, _, _ => none
noncomputable def bk_Th_countLeft_16 : List Int32 → List Int64 → tq_S → Option tq_C
  | [x3, x4, x5], [], σ => if (σ.2.2 9) ≤ x5 then some (tq_rt, [x4], [], σ) else tq_gd (x3 + x5) 400 (tq_ob (tq_fI st_Jl_bitCount (0, [], [(la σ 5 (x3 + x5))], σ)) (fun r5 σ6 => tq_lj (x4 + r5) (fun v7 => tq_lj (x5 + 1) (fun v8 => some (16, [x3, v7, v8], [], σ6)))))
  | _, _, _ => none
noncomputable def st_Th_countLeft (c : tq_C) : Option tq_C := if c.1 = 0 then bk_Th_countLeft_0 c.2.1 c.2.2.1 c.2.2.2 else if c.1 = 16 then bk_Th_countLeft_16 c.2.1 c.2.2.1 c.2.2.2 else none
set_option maxHeartbeats 40000000 in
set_option maxRecDepth 100000 in
theorem c_Th_countLeft (l : Launch) (dC : Nat → ClassId) (dI : Nat → Nat → Nat) (cI cL cZ : ClassId) (ad : Nat → Nat) (tt : Nat) (sz : Nat) (σ : tq_S) (a1 : Int32) (a2 : Int32) (r : Int32) (σ' : tq_S) (hf : tq_fI st_Th_countLeft (0, [a1, a2], [], σ) = some (r, σ')) : Met l y_Th_countLeft w_Th_countLeft ({ frames := 1, cells := 0, slots := 0, locals := 21 } : Room) (va_Pc [.ref (ad 4), .int a1, .int a2] (tq_B dC dI cI cL cZ tt (wo cI cL cZ ad σ) sz)) (va_Qi (fun (r' : Int32) (u : tq_S) => r' = r ∧ u = σ') (tq_E dC dI cI cL cZ (wo cI cL cZ ad) (va_A (wo cI cL cZ ad σ) sz)) (va_A (wo cI cL cZ ad σ) sz)) 0 0 (va_A (wo cI cL cZ ad σ) sz) := by
  obtain ⟨n0, h0⟩ := tq_fI_to hf
  refine Met.ofW (cc := prog_5_method_13_code) (maxL := 6) (ret := (some .int)) (by decide) rfl ?_
  intro p e s m args below meth c s₁ B hml hv
  obtain ⟨rfl, hsz, hP, hK, hD0, hZ, hN⟩ := hv
  have hx := B.exec
  have hb := B.bytes
  have hr := B.returns
  have hts : ∀ w ∈ tq_T, w.before _ s = true := fun w h => atoms_spec (ws := w_Th_countLeft) B.pre w (List.mem_cons_of_mem _ h)
  have hown : s.vm.findClass "TableauNodes$Things" = some m.cls := findClass_of_methodNamed B.named
  have hlocks := B.notSynchronized
  subst hsz
  have hD := hD0.self (sz := s.heap.size)
  have hS : va_S (va_A (wo cI cL cZ ad σ) s.heap.size) s.heap s.heap [] := va_S.rf
  have hA : ∀ q : Nat, s.heap.size ≤ q → va_A (wo cI cL cZ ad σ) s.heap.size q := fun q h => Or.inr h
  generalize va_A (wo cI cL cZ ad σ) s.heap.size = A at hD hS hA hZ ⊢
  have hl := lv_entry ([.ref (ad 4), .int a1, .int a2]) (n := 6) (Nat.le_of_ble_eq_true rfl)
  rw [lg_entry_eq]
  generalize (lg_sl ([.ref (ad 4), .int a1, .int a2]) ++ List.replicate (6 - (lg_sl ([.ref (ad 4), .int a1, .int a2])).length) Slot.unset).toArray = ls at hl ⊢
  have hl : lv_has ls 6 [(0, .ref (ad 4)), (1, .int a1), (2, .int a2)] := hl
  have key : ∀ n : Nat, (∀ {x1 x2 : Int32} {σ : tq_S} {H : Heap} {locs : List Loc} {ls : Array Slot}, va_P (dC, dI) tq_cl (wo cI cL cZ ad σ) H → va_D A (wo cI cL cZ ad σ) → va_S A s.heap H locs → lv_has ls 6 [(0, .ref (ad 4)), (1, .int x1), (2, .int x2)] → tq_go st_Th_countLeft n (0, [x1, x2], [], σ) = some (tq_rt, [r], [], σ') → W p l e (headSpec w_Th_countLeft ({ frames := 1, cells := 0, slots := 0, locals := 21 } : Room)).room s m ([.ref (ad 4), .int a1, .int a2] : List Value).toArray below meth c H locs 0 0 (MQ below (va_Qi (fun (r' : Int32) (u : tq_S) => r' = r ∧ u = σ') (tq_E dC dI cI cL cZ (wo cI cL cZ ad) A) A) ([.ref (ad 4), .int a1, .int a2] : List Value).toArray s 0 0 A) (F0 m 0 ls [])) ∧ (∀ {x3 x4 x5 : Int32} {σ : tq_S} {H : Heap} {locs : List Loc} {ls : Array Slot}, va_P (dC, dI) tq_cl (wo cI cL cZ ad σ) H → va_D A (wo cI cL cZ ad σ) → va_S A s.heap H locs → lv_has ls 6 [(0, .ref (ad 4)), (3, .int x3), (4, .int x4), (5, .int x5)] → tq_go st_Th_countLeft n (16, [x3, x4, x5], [], σ) = some (tq_rt, [r], [], σ') → W p l e (headSpec w_Th_countLeft ({ frames := 1, cells := 0, slots := 0, locals := 21 } : Room)).room s m ([.ref (ad 4), .int a1, .int a2] : List Value).toArray below meth c H locs 0 0 (MQ below (va_Qi (fun (r' : Int32) (u : tq_S) => r' = r ∧ u = σ') (tq_E dC dI cI cL cZ (wo cI cL cZ ad) A) A) ([.ref (ad 4), .int a1, .int a2] : List Value).toArray s 0 0 A) (F0 m 16 ls [])) := by
    intro n
    induction n with
    | zero => exact ⟨(fun _ _ _ _ h => by cases h), (fun _ _ _ _ h => by cases h)⟩
    | succ n ih =>
      refine ⟨?_, ?_⟩
      · intro x1 x2 σ H locs ls hP hD hS hl h9
        obtain ⟨q9, hg, hn⟩ := tq_go_s h9 (show ¬ (0 : Nat) = tq_rt by decide)
        replace hg : bk_Th_countLeft_0 [x1, x2] [] σ = some q9 := hg
        unfold bk_Th_countLeft_0 at hg
        refine lv_iload_n hx hb d_Th_countLeft_0 rfl (lv_at hl 1 rfl) ?_
        refine lv_bipush (v := 80) hx hb d_Th_countLeft_1 (by decide) ?_
        refine lv_imul hx hb d_Th_countLeft_3 ?_
        refine lv_iload_n hx hb d_Th_countLeft_4 rfl (lv_at hl 2 rfl) ?_
        refine lv_bipush (v := 16) hx hb d_Th_countLeft_5 (by decide) ?_
        refine lv_imul hx hb d_Th_countLeft_7 ?_
        refine lv_iadd hx hb d_Th_countLeft_8 ?_
        obtain ⟨v1, ev1, hg⟩ := tq_lj_s hg
        refine tq_nmi ev1 ?_
        refine lv_istore_n (lv' := [(3, .int v1), (0, .ref (ad 4)), (1, .int x1), (2, .int x2)]) hx hb d_Th_countLeft_9 rfl hl (by decide) rfl (fun ls hl => ?_)
        refine lv_iconst (v := 0) hx hb d_Th_countLeft_10 (by decide) ?_
        refine lv_istore (lv' := [(4, .int 0), (3, .int v1), (0, .ref (ad 4)), (1, .int x1), (2, .int x2)]) hx hb d_Th_countLeft_11 hl (by decide) rfl (fun ls hl => ?_)
        refine lv_iconst (v := 0) hx hb d_Th_countLeft_13 (by decide) ?_
        refine lv_istore (lv' := [(5, .int 0), (4, .int 0), (3, .int v1), (0, .ref (ad 4)), (1, .int x1), (2, .int x2)]) hx hb d_Th_countLeft_14 hl (by decide) rfl (fun ls hl => ?_)
        exact ih.2 hP hD hS (lv_sub hl [3, 2, 1, 0] rfl) (tq_gi hg hn)
      · intro x3 x4 x5 σ H locs ls hP hD hS hl h9
        obtain ⟨q9, hg, hn⟩ := tq_go_s h9 (show ¬ (16 : Nat) = tq_rt by decide)
        replace hg : bk_Th_countLeft_16 [x3, x4, x5] [] σ = some q9 := hg
        unfold bk_Th_countLeft_16 at hg
        refine lv_iload hx hb d_Th_countLeft_16 (lv_at hl 3 rfl) ?_
        refine lv_aload_n hx hb d_Th_countLeft_18 rfl (lv_at hl 0 rfl) ?_
        refine va_get (D := (dC, dI)) (ci := 4) (v := .int (σ.2.2 9)) (C := "TableauNodes$Things") (T := F_Th) (N := 15) hx hb hts in_Th hown hK hP 4 rfl rfl 10 (by decide) (hts _ tw_184) (fun _ h9 => h9) rfl d_Th_countLeft_19 ?_
        refine lv_icmp_ge (tgt := 48) hx hb d_Th_countLeft_22 (by decide) (fun c2 => ?_) (fun c2 => ?_)
        · replace hg := tq_if_t c2 hg
          refine lv_iload hx hb d_Th_countLeft_48 (lv_at hl 2 rfl) ?_
          exact W.iret (v := x4) hx hb hr (fun t ht hW => ⟨⟨x4, σ, rfl, tq_grI hg hn, by rw [ht]; exact hP, va_K.moved hW.alike hK, hD⟩, hS.F ht⟩) hS.2.2 d_Th_countLeft_50
        · replace hg := tq_if_f c2 hg
          refine lv_iload hx hb d_Th_countLeft_25 (lv_at hl 2 rfl) ?_
          refine lv_aload_n hx hb d_Th_countLeft_27 rfl (lv_at hl 0 rfl) ?_
          refine va_get (D := (dC, dI)) (ci := 4) (v := .ref (ad 26)) (C := "TableauNodes$Things") (T := F_Th) (N := 15) hx hb hts in_Th hown hK hP 4 rfl rfl 7 (by decide) (hts _ tw_181) (fun _ h9 => h9) rfl d_Th_countLeft_28 ?_
          refine lv_iload_n hx hb d_Th_countLeft_31 rfl (lv_at hl 1 rfl) ?_
          refine lv_iload hx hb d_Th_countLeft_32 (lv_at hl 3 rfl) ?_
          refine lv_iadd hx hb d_Th_countLeft_34 ?_
          obtain ⟨g3, hg⟩ := tq_gd_s hg
          refine va_lald hx hb hK hP 26 1 rfl rfl g3 d_Th_countLeft_35 ?_
          obtain ⟨r5, σ6, f4, hg⟩ := tq_ob_s hg
          refine tq_aI (va_runS (As := [.long (la σ 5 (x3 + x5))]) (rest := [.int x4]) ⟨hx, hb, hml, hown, hts⟩ (c_Jl_bitCount l dC dI cI cL cZ ad tt H.size σ  (la σ 5 (x3 + x5)) r5 σ6 f4) (va_cwS 1 hts (tq_gS tw_521 tw_393 tw_8 tw_394) rfl rfl rfl (by decide +kernel) ⟨Nat.le_of_ble_eq_true rfl, Nat.le_of_ble_eq_true rfl⟩) ⟨tq_bl, (tq_pr hP hK hD hS hA hZ hN)⟩ rfl rfl hl.1 rfl (lv_room (Nat.le_of_ble_eq_true rfl)) d_Th_countLeft_36 ⟨Nat.zero_le _, Nat.zero_le _⟩) hD hS hA (fun H locs hP hD hS => ?_)
          refine lv_iadd hx hb d_Th_countLeft_39 ?_
          obtain ⟨v7, ev7, hg⟩ := tq_lj_s hg
          refine tq_nmi ev7 ?_
          refine lv_istore (lv' := [(4, .int v7), (0, .ref (ad 4)), (3, .int x3), (5, .int x5)]) hx hb d_Th_countLeft_40 hl (by decide) rfl (fun ls hl => ?_)
          obtain ⟨v8, ev8, hg⟩ := tq_lj_s hg
          refine lv_iinc (v := v8) (lv' := [(5, .int v8), (4, .int v7), (0, .ref (ad 4)), (3, .int x3)]) hx hb d_Th_countLeft_42 hl (k := 3) rfl (by rw [ev8]; rfl) (by decide) rfl (fun ls hl => ?_)
          refine lv_goto (tgt := 16) hx hb d_Th_countLeft_45 (by decide) ?_
          exact ih.2 hP hD hS (lv_sub hl [2, 3, 1, 0] rfl) (tq_gi hg hn)
  exact (key n0).1 hP hD hS hl h0
noncomputable def bk_Th_mostBound_0 : List Int32 → List Int64 → tq_S → Option tq_C
  | [x1, x2], [], σ => some (10, [x1, x2, 0, 1025, 0], [], σ)
  | _, _, _ => none
noncomputable def bk_Th_mostBound_10 : List Int32 → List Int64 → tq_S → Option tq_C
  | [x1, x2, x3, x4, x5], [], σ => if 5 ≤ x5 then some (tq_rt, [x3], [], σ) else tq_ob (tq_fI st_Tn_hasBit (0, [x5], [x2.toInt64], σ)) (fun r3 σ4 => if r3 = 0 then if x4 ≤ x4 then tq_lj (x5 + 1) (fun v7 => some (10, [x1, x2, x3, x4, v7], [], σ4)) else tq_lj (x5 + 1) (fun v8 => some (10, [x1, x2, x5, x4, v8], [], σ4)) else tq_ob (tq_fI st_Th_countLeft (0, [x1, x5], [], σ4)) (fun r10 σ11 => if x4 ≤ r10 then tq_lj (x5 + 1) (fun v13 => some (10, [x1, x2, x3, x4, v13], [], σ11)) else tq_lj (x5 + 1) (fun v14 => some (10, [x1, x2, x5, r10, v14], [], σ11))))
  | _, _, _ => none
noncomputable def st_Th_mostBound (c : tq_C) : Option tq_C := if c.1 = 0 then bk_Th_mostBound_0 c.2.1 c.2.2.1 c.2.2.2 else if c.1 = 10 then bk_Th_mostBound_10 c.2.1 c.2.2.1 c.2.2.2 else none
set_option maxHeartbeats 40000000 in
set_option maxRecDepth 100000 in
theorem c_Th_mostBound (l : Launch) (dC : Nat → ClassId) (dI : Nat → Nat → Nat) (cI cL cZ : ClassId) (ad : Nat → Nat) (tt : Nat) (sz : Nat) (σ : tq_S) (a1 : Int32) (a2 : Int32) (r : Int32) (σ' : tq_S) (hf : tq_fI st_Th_mostBound (0, [a1, a2], [], σ) = some (r, σ')) : Met l y_Th_mostBound w_Th_mostBound ({ frames := 2, cells := 0, slots := 0, locals := 46 } : Room) (va_Pc [.ref (ad 4), .int a1, .int a2] (tq_B dC dI cI cL cZ tt (wo cI cL cZ ad σ) sz)) (va_Qi (fun (r' : Int32) (u : tq_S) => r' = r ∧ u = σ') (tq_E dC dI cI cL cZ (wo cI cL cZ ad) (va_A (wo cI cL cZ ad σ) sz)) (va_A (wo cI cL cZ ad σ) sz)) 0 0 (va_A (wo cI cL cZ ad σ) sz) := by
  obtain ⟨n0, h0⟩ := tq_fI_to hf
  refine Met.ofW (cc := prog_5_method_15_code) (maxL := 7) (ret := (some .int)) (by decide) rfl ?_
  intro p e s m args below meth c s₁ B hml hv
  obtain ⟨rfl, hsz, hP, hK, hD0, hZ, hN⟩ := hv
  have hx := B.exec
  have hb := B.bytes
  have hr := B.returns
  have hts : ∀ w ∈ tq_T, w.before _ s = true := fun w h => atoms_spec (ws := w_Th_mostBound) B.pre w (List.mem_cons_of_mem _ h)
  have hown : s.vm.findClass "TableauNodes$Things" = some m.cls := findClass_of_methodNamed B.named
  have hlocks := B.notSynchronized
  subst hsz
  have hD := hD0.self (sz := s.heap.size)
  have hS : va_S (va_A (wo cI cL cZ ad σ) s.heap.size) s.heap s.heap [] := va_S.rf
  have hA : ∀ q : Nat, s.heap.size ≤ q → va_A (wo cI cL cZ ad σ) s.heap.size q := fun q h => Or.inr h
  generalize va_A (wo cI cL cZ ad σ) s.heap.size = A at hD hS hA hZ ⊢
  have hl := lv_entry ([.ref (ad 4), .int a1, .int a2]) (n := 7) (Nat.le_of_ble_eq_true rfl)
  rw [lg_entry_eq]
  generalize (lg_sl ([.ref (ad 4), .int a1, .int a2]) ++ List.replicate (7 - (lg_sl ([.ref (ad 4), .int a1, .int a2])).length) Slot.unset).toArray = ls at hl ⊢
  have hl : lv_has ls 7 [(0, .ref (ad 4)), (1, .int a1), (2, .int a2)] := hl
  have key : ∀ n : Nat, (∀ {x1 x2 : Int32} {σ : tq_S} {H : Heap} {locs : List Loc} {ls : Array Slot}, va_P (dC, dI) tq_cl (wo cI cL cZ ad σ) H → va_D A (wo cI cL cZ ad σ) → va_S A s.heap H locs → lv_has ls 7 [(0, .ref (ad 4)), (1, .int x1), (2, .int x2)] → tq_go st_Th_mostBound n (0, [x1, x2], [], σ) = some (tq_rt, [r], [], σ') → W p l e (headSpec w_Th_mostBound ({ frames := 2, cells := 0, slots := 0, locals := 46 } : Room)).room s m ([.ref (ad 4), .int a1, .int a2] : List Value).toArray below meth c H locs 0 0 (MQ below (va_Qi (fun (r' : Int32) (u : tq_S) => r' = r ∧ u = σ') (tq_E dC dI cI cL cZ (wo cI cL cZ ad) A) A) ([.ref (ad 4), .int a1, .int a2] : List Value).toArray s 0 0 A) (F0 m 0 ls [])) ∧ (∀ {x1 x2 x3 x4 x5 : Int32} {σ : tq_S} {H : Heap} {locs : List Loc} {ls : Array Slot}, va_P (dC, dI) tq_cl (wo cI cL cZ ad σ) H → va_D A (wo cI cL cZ ad σ) → va_S A s.heap H locs → lv_has ls 7 [(0, .ref (ad 4)), (1, .int x1), (2, .int x2), (3, .int x3), (4, .int x4), (5, .int x5)] → tq_go st_Th_mostBound n (10, [x1, x2, x3, x4, x5], [], σ) = some (tq_rt, [r], [], σ') → W p l e (headSpec w_Th_mostBound ({ frames := 2, cells := 0, slots := 0, locals := 46 } : Room)).room s m ([.ref (ad 4), .int a1, .int a2] : List Value).toArray below meth c H locs 0 0 (MQ below (va_Qi (fun (r' : Int32) (u : tq_S) => r' = r ∧ u = σ') (tq_E dC dI cI cL cZ (wo cI cL cZ ad) A) A) ([.ref (ad 4), .int a1, .int a2] : List Value).toArray s 0 0 A) (F0 m 10 ls [])) := by
    intro n
    induction n with
    | zero => exact ⟨(fun _ _ _ _ h => by cases h), (fun _ _ _ _ h => by cases h)⟩
    | succ n ih =>
      refine ⟨?_, ?_⟩
      · intro x1 x2 σ H locs ls hP hD hS hl h9
        obtain ⟨q9, hg, hn⟩ := tq_go_s h9 (show ¬ (0 : Nat) = tq_rt by decide)
        replace hg : bk_Th_mostBound_0 [x1, x2] [] σ = some q9 := hg
        unfold bk_Th_mostBound_0 at hg
        refine lv_iconst (v := 0) hx hb d_Th_mostBound_0 (by decide) ?_
        refine lv_istore_n (lv' := [(3, .int 0), (0, .ref (ad 4)), (1, .int x1), (2, .int x2)]) hx hb d_Th_mostBound_1 rfl hl (by decide) rfl (fun ls hl => ?_)
        refine lv_sipush (v := 1025) hx hb d_Th_mostBound_2 (by decide) ?_
        refine lv_istore (lv' := [(4, .int 1025), (3, .int 0), (0, .ref (ad 4)), (1, .int x1), (2, .int x2)]) hx hb d_Th_mostBound_5 hl (by decide) rfl (fun ls hl => ?_)
        refine lv_iconst (v := 0) hx hb d_Th_mostBound_7 (by decide) ?_
        refine lv_istore (lv' := [(5, .int 0), (4, .int 1025), (3, .int 0), (0, .ref (ad 4)), (1, .int x1), (2, .int x2)]) hx hb d_Th_mostBound_8 hl (by decide) rfl (fun ls hl => ?_)
        exact ih.2 hP hD hS (lv_sub hl [3, 4, 5, 2, 1, 0] rfl) (tq_gi hg hn)
      · intro x1 x2 x3 x4 x5 σ H locs ls hP hD hS hl h9
        obtain ⟨q9, hg, hn⟩ := tq_go_s h9 (show ¬ (10 : Nat) = tq_rt by decide)
        replace hg : bk_Th_mostBound_10 [x1, x2, x3, x4, x5] [] σ = some q9 := hg
        unfold bk_Th_mostBound_10 at hg
        refine lv_iload hx hb d_Th_mostBound_10 (lv_at hl 5 rfl) ?_
        refine lv_iconst (v := 5) hx hb d_Th_mostBound_12 (by decide) ?_
        refine lv_icmp_ge (tgt := 60) hx hb d_Th_mostBound_13 (by decide) (fun c1 => ?_) (fun c1 => ?_)
        · replace hg := tq_if_t c1 hg
          refine lv_iload_n hx hb d_Th_mostBound_60 rfl (lv_at hl 3 rfl) ?_
          exact W.iret (v := x3) hx hb hr (fun t ht hW => ⟨⟨x3, σ, rfl, tq_grI hg hn, by rw [ht]; exact hP, va_K.moved hW.alike hK, hD⟩, hS.F ht⟩) hS.2.2 d_Th_mostBound_61
        · replace hg := tq_if_f c1 hg
          refine lv_iload_n hx hb d_Th_mostBound_16 rfl (lv_at hl 2 rfl) ?_
          refine lv_i2l hx hb d_Th_mostBound_17 rfl ?_
          refine lv_iload hx hb d_Th_mostBound_18 (lv_at hl 5 rfl) ?_
          obtain ⟨r3, σ4, f2, hg⟩ := tq_ob_s hg
          refine tq_aI (va_runSN (As := [.long x2.toInt64, .int x5]) (rest := []) ⟨hx, hb, hml, hown, hts⟩ (c_Tn_hasBit l dC dI cI cL cZ ad tt H.size σ x5 x2.toInt64 r3 σ4 f2) ⟨va_cnB 2 hts (tq_gC tw_62) rfl rfl rfl (hN _ (List.mem_of_getElem? (i := 8) rfl)) (hts _ tw_1) (by decide +kernel) ⟨Nat.le_of_ble_eq_true rfl, Nat.le_of_ble_eq_true rfl⟩, hts _ tw_61, trivial⟩ ⟨tq_bl, (tq_pr hP hK hD hS hA hZ hN)⟩ rfl rfl hl.1 rfl (lv_room (Nat.le_of_ble_eq_true rfl)) d_Th_mostBound_20 ⟨Nat.zero_le _, Nat.zero_le _⟩) hD hS hA (fun H locs hP hD hS => ?_)
          refine lv_if_eq (tgt := 36) hx hb d_Th_mostBound_23 (by decide) (fun c5 => ?_) (fun c5 => ?_)
          · replace hg := tq_if_t c5 hg
            refine lv_iload hx hb d_Th_mostBound_36 (lv_at hl 4 rfl) ?_
            refine lv_istore (lv' := [(6, .int x4), (0, .ref (ad 4)), (1, .int x1), (2, .int x2), (3, .int x3), (4, .int x4), (5, .int x5)]) hx hb d_Th_mostBound_38 hl (by decide) rfl (fun ls hl => ?_)
            refine lv_iload hx hb d_Th_mostBound_40 (lv_at hl 0 rfl) ?_
            refine lv_iload hx hb d_Th_mostBound_42 (lv_at hl 5 rfl) ?_
            refine lv_icmp_ge (tgt := 54) hx hb d_Th_mostBound_44 (by decide) (fun c6 => ?_) (fun c6 => ?_)
            · replace hg := tq_if_t c6 hg
              obtain ⟨v7, ev7, hg⟩ := tq_lj_s hg
              refine lv_iinc (v := v7) (lv' := [(5, .int v7), (6, .int x4), (0, .ref (ad 4)), (1, .int x1), (2, .int x2), (3, .int x3), (4, .int x4)]) hx hb d_Th_mostBound_54 hl (k := 6) rfl (by rw [ev7]; rfl) (by decide) rfl (fun ls hl => ?_)
              refine lv_goto (tgt := 10) hx hb d_Th_mostBound_57 (by decide) ?_
              exact ih.2 hP hD hS (lv_sub hl [2, 3, 4, 5, 6, 0] rfl) (tq_gi hg hn)
            · replace hg := tq_if_f c6 hg
              refine lv_iload hx hb d_Th_mostBound_47 (lv_at hl 6 rfl) ?_
              refine lv_istore_n (lv' := [(3, .int x5), (6, .int x4), (0, .ref (ad 4)), (1, .int x1), (2, .int x2), (4, .int x4), (5, .int x5)]) hx hb d_Th_mostBound_49 rfl hl (by decide) rfl (fun ls hl => ?_)
              refine lv_iload hx hb d_Th_mostBound_50 (lv_at hl 1 rfl) ?_
              refine lv_istore (lv' := [(4, .int x4), (3, .int x5), (6, .int x4), (0, .ref (ad 4)), (1, .int x1), (2, .int x2), (5, .int x5)]) hx hb d_Th_mostBound_52 hl (by decide) rfl (fun ls hl => ?_)
              obtain ⟨v8, ev8, hg⟩ := tq_lj_s hg
              refine lv_iinc (v := v8) (lv' := [(5, .int v8), (4, .int x4), (3, .int x5), (6, .int x4), (0, .ref (ad 4)), (1, .int x1), (2, .int x2)]) hx hb d_Th_mostBound_54 hl (k := 6) rfl (by rw [ev8]; rfl) (by decide) rfl (fun ls hl => ?_)
              refine lv_goto (tgt := 10) hx hb d_Th_mostBound_57 (by decide) ?_
              exact ih.2 hP hD hS (lv_sub hl [4, 5, 6, 2, 1, 0] rfl) (tq_gi hg hn)
          · replace hg := tq_if_f c5 hg
            refine lv_aload_n hx hb d_Th_mostBound_26 rfl (lv_at hl 0 rfl) ?_
            refine lv_iload_n hx hb d_Th_mostBound_27 rfl (lv_at hl 1 rfl) ?_
            refine lv_iload hx hb d_Th_mostBound_28 (lv_at hl 5 rfl) ?_
            obtain ⟨r10, σ11, f9, hg⟩ := tq_ob_s hg
            refine tq_aI (va_runV (As := [.int x1, .int x5]) (rest := []) ⟨hx, hb, hml, hown, hts⟩ (c_Th_countLeft l dC dI cI cL cZ ad tt H.size σ4 x1 x5  r10 σ11 f9) (cwV 2 hts (tq_gV tw_517 tw_519 ts_21 tw_5 tw_520) rfl rfl rfl (by decide +kernel) ⟨Nat.le_of_ble_eq_true rfl, Nat.le_of_ble_eq_true rfl⟩) ⟨tq_bl, va_recv hK hP (ci := 4) (q0 := 4) rfl rfl, (tq_pr hP hK hD hS hA hZ hN)⟩ rfl rfl hl.1 rfl (lv_room (Nat.le_of_ble_eq_true rfl)) d_Th_mostBound_30 ⟨Nat.zero_le _, Nat.zero_le _⟩) hD hS hA (fun H locs hP hD hS => ?_)
            refine lv_goto (tgt := 38) hx hb d_Th_mostBound_33 (by decide) ?_
            refine lv_istore (lv' := [(6, .int r10), (0, .ref (ad 4)), (1, .int x1), (2, .int x2), (3, .int x3), (4, .int x4), (5, .int x5)]) hx hb d_Th_mostBound_38 hl (by decide) rfl (fun ls hl => ?_)
            refine lv_iload hx hb d_Th_mostBound_40 (lv_at hl 0 rfl) ?_
            refine lv_iload hx hb d_Th_mostBound_42 (lv_at hl 5 rfl) ?_
            refine lv_icmp_ge (tgt := 54) hx hb d_Th_mostBound_44 (by decide) (fun c12 => ?_) (fun c12 => ?_)
            · replace hg := tq_if_t c12 hg
              obtain ⟨v13, ev13, hg⟩ := tq_lj_s hg
              refine lv_iinc (v := v13) (lv' := [(5, .int v13), (6, .int r10), (0, .ref (ad 4)), (1, .int x1), (2, .int x2), (3, .int x3), (4, .int x4)]) hx hb d_Th_mostBound_54 hl (k := 6) rfl (by rw [ev13]; rfl) (by decide) rfl (fun ls hl => ?_)
              refine lv_goto (tgt := 10) hx hb d_Th_mostBound_57 (by decide) ?_
              exact ih.2 hP hD hS (lv_sub hl [2, 3, 4, 5, 6, 0] rfl) (tq_gi hg hn)
            · replace hg := tq_if_f c12 hg
              refine lv_iload hx hb d_Th_mostBound_47 (lv_at hl 6 rfl) ?_
              refine lv_istore_n (lv' := [(3, .int x5), (6, .int r10), (0, .ref (ad 4)), (1, .int x1), (2, .int x2), (4, .int x4), (5, .int x5)]) hx hb d_Th_mostBound_49 rfl hl (by decide) rfl (fun ls hl => ?_)
              refine lv_iload hx hb d_Th_mostBound_50 (lv_at hl 1 rfl) ?_
              refine lv_istore (lv' := [(4, .int r10), (3, .int x5), (6, .int r10), (0, .ref (ad 4)), (1, .int x1), (2, .int x2), (5, .int x5)]) hx hb d_Th_mostBound_52 hl (by decide) rfl (fun ls hl => ?_)
              obtain ⟨v14, ev14, hg⟩ := tq_lj_s hg
              refine lv_iinc (v := v14) (lv' := [(5, .int v14), (4, .int r10), (3, .int x5), (6, .int r10), (0, .ref (ad 4)), (1, .int x1), (2, .int x2)]) hx hb d_Th_mostBound_54 hl (k := 6) rfl (by rw [ev14]; rfl) (by decide) rfl (fun ls hl => ?_)
              refine lv_goto (tgt := 10) hx hb d_Th_mostBound_57 (by decide) ?_
              exact ih.2 hP hD hS (lv_sub hl [4, 5, 6, 2, 1, 0] rfl) (tq_gi hg hn)
  exact (key n0).1 hP hD hS hl h0
noncomputable def bk_Th_addDemand_0 : List Int32 → List Int64 → tq_S → Option tq_C
  | [x1, x2, x3], [], σ => some (3, [x1, x2, x3, 0], [], σ)
  | _, _, _ => none
noncomputable def bk_Th_addDemand_3 : List Int32 → List Int64 → tq_S → Option tq_C
  | [x1, x2, x3, x4], [], σ => if x2 ≤ x4 then some (39, [x1, x2, x3, 0, 0], [], σ) else tq_gd (x1 + x4) 4096 (if ¬ ((ia σ 15 (x1 + x4)) &&& (x3 ^^^ (-1))) = 0 then tq_lj (x4 + 1) (fun v4 => some (3, [x1, x2, x3, v4], [], σ)) else some (tq_rt, [x2], [], σ))
  | _, _, _ => none
noncomputable def bk_Th_addDemand_39 : List Int32 → List Int64 → tq_S → Option tq_C
  | [x1, x2, x3, x4, x5], [], σ => if x2 ≤ x5 then tq_gd (x1 + x4) 4096 (tq_lj (iput σ 15 (x1 + x4).toNatClampNeg x3) (fun σ7 => some (tq_rt, [(x4 + 1)], [], σ7))) else tq_gd (x1 + x5) 4096 (if (x3 &&& ((ia σ 15 (x1 + x5)) ^^^ (-1))) = 0 then tq_lj (x5 + 1) (fun v10 => some (39, [x1, x2, x3, x4, v10], [], σ)) else tq_gd (x1 + x5) 4096 (tq_gd (x1 + x4) 4096 (tq_lj (iput σ 15 (x1 + x4).toNatClampNeg (ia σ 15 (x1 + x5))) (fun σ13 => tq_lj (x4 + 1) (fun v14 => tq_lj (x5 + 1) (fun v15 => some (39, [x1, x2, x3, v14, v15], [], σ13)))))))
  | _, _, _ => none
noncomputable def st_Th_addDemand (c : tq_C) : Option tq_C := if c.1 = 0 then bk_Th_addDemand_0 c.2.1 c.2.2.1 c.2.2.2 else if c.1 = 3 then bk_Th_addDemand_3 c.2.1 c.2.2.1 c.2.2.2 else if c.1 = 39 then bk_Th_addDemand_39 c.2.1 c.2.2.1 c.2.2.2 else none
set_option maxHeartbeats 40000000 in
set_option maxRecDepth 100000 in
theorem c_Th_addDemand (l : Launch) (dC : Nat → ClassId) (dI : Nat → Nat → Nat) (cI cL cZ : ClassId) (ad : Nat → Nat) (tt : Nat) (sz : Nat) (σ : tq_S) (a1 : Int32) (a2 : Int32) (a3 : Int32) (r : Int32) (σ' : tq_S) (hf : tq_fI st_Th_addDemand (0, [a1, a2, a3], [], σ) = some (r, σ')) : Met l y_Th_addDemand w_Th_addDemand ({ frames := 0, cells := 0, slots := 0, locals := 0 } : Room) (va_Pc [.ref (ad 4), .int a1, .int a2, .int a3] (tq_B dC dI cI cL cZ tt (wo cI cL cZ ad σ) sz)) (va_Qi (fun (r' : Int32) (u : tq_S) => r' = r ∧ u = σ') (tq_E dC dI cI cL cZ (wo cI cL cZ ad) (va_A (wo cI cL cZ ad σ) sz)) (va_A (wo cI cL cZ ad σ) sz)) 0 0 (va_A (wo cI cL cZ ad σ) sz) := by
  obtain ⟨n0, h0⟩ := tq_fI_to hf
  refine Met.ofW (cc := prog_5_method_17_code) (maxL := 6) (ret := (some .int)) (by decide) rfl ?_
  intro p e s m args below meth c s₁ B hml hv
  obtain ⟨rfl, hsz, hP, hK, hD0, hZ, hN⟩ := hv
  have hx := B.exec
  have hb := B.bytes
  have hr := B.returns
  have hts : ∀ w ∈ tq_T, w.before _ s = true := fun w h => atoms_spec (ws := w_Th_addDemand) B.pre w (List.mem_cons_of_mem _ h)
  have hown : s.vm.findClass "TableauNodes$Things" = some m.cls := findClass_of_methodNamed B.named
  have hlocks := B.notSynchronized
  subst hsz
  have hD := hD0.self (sz := s.heap.size)
  have hS : va_S (va_A (wo cI cL cZ ad σ) s.heap.size) s.heap s.heap [] := va_S.rf
  have hA : ∀ q : Nat, s.heap.size ≤ q → va_A (wo cI cL cZ ad σ) s.heap.size q := fun q h => Or.inr h
  generalize va_A (wo cI cL cZ ad σ) s.heap.size = A at hD hS hA hZ ⊢
  have hl := lv_entry ([.ref (ad 4), .int a1, .int a2, .int a3]) (n := 6) (Nat.le_of_ble_eq_true rfl)
  rw [lg_entry_eq]
  generalize (lg_sl ([.ref (ad 4), .int a1, .int a2, .int a3]) ++ List.replicate (6 - (lg_sl ([.ref (ad 4), .int a1, .int a2, .int a3])).length) Slot.unset).toArray = ls at hl ⊢
  have hl : lv_has ls 6 [(0, .ref (ad 4)), (1, .int a1), (2, .int a2), (3, .int a3)] := hl
  have key : ∀ n : Nat, (∀ {x1 x2 x3 : Int32} {σ : tq_S} {H : Heap} {locs : List Loc} {ls : Array Slot}, va_P (dC, dI) tq_cl (wo cI cL cZ ad σ) H → va_D A (wo cI cL cZ ad σ) → va_S A s.heap H locs → lv_has ls 6 [(0, .ref (ad 4)), (1, .int x1), (2, .int x2), (3, .int x3)] → tq_go st_Th_addDemand n (0, [x1, x2, x3], [], σ) = some (tq_rt, [r], [], σ') → W p l e (headSpec w_Th_addDemand ({ frames := 0, cells := 0, slots := 0, locals := 0 } : Room)).room s m ([.ref (ad 4), .int a1, .int a2, .int a3] : List Value).toArray below meth c H locs 0 0 (MQ below (va_Qi (fun (r' : Int32) (u : tq_S) => r' = r ∧ u = σ') (tq_E dC dI cI cL cZ (wo cI cL cZ ad) A) A) ([.ref (ad 4), .int a1, .int a2, .int a3] : List Value).toArray s 0 0 A) (F0 m 0 ls [])) ∧ (∀ {x1 x2 x3 x4 : Int32} {σ : tq_S} {H : Heap} {locs : List Loc} {ls : Array Slot}, va_P (dC, dI) tq_cl (wo cI cL cZ ad σ) H → va_D A (wo cI cL cZ ad σ) → va_S A s.heap H locs → lv_has ls 6 [(0, .ref (ad 4)), (1, .int x1), (2, .int x2), (3, .int x3), (4, .int x4)] → tq_go st_Th_addDemand n (3, [x1, x2, x3, x4], [], σ) = some (tq_rt, [r], [], σ') → W p l e (headSpec w_Th_addDemand ({ frames := 0, cells := 0, slots := 0, locals := 0 } : Room)).room s m ([.ref (ad 4), .int a1, .int a2, .int a3] : List Value).toArray below meth c H locs 0 0 (MQ below (va_Qi (fun (r' : Int32) (u : tq_S) => r' = r ∧ u = σ') (tq_E dC dI cI cL cZ (wo cI cL cZ ad) A) A) ([.ref (ad 4), .int a1, .int a2, .int a3] : List Value).toArray s 0 0 A) (F0 m 3 ls [])) ∧ (∀ {x1 x2 x3 x4 x5 : Int32} {σ : tq_S} {H : Heap} {locs : List Loc} {ls : Array Slot}, va_P (dC, dI) tq_cl (wo cI cL cZ ad σ) H → va_D A (wo cI cL cZ ad σ) → va_S A s.heap H locs → lv_has ls 6 [(0, .ref (ad 4)), (1, .int x1), (2, .int x2), (3, .int x3), (4, .int x4), (5, .int x5)] → tq_go st_Th_addDemand n (39, [x1, x2, x3, x4, x5], [], σ) = some (tq_rt, [r], [], σ') → W p l e (headSpec w_Th_addDemand ({ frames := 0, cells := 0, slots := 0, locals := 0 } : Room)).room s m ([.ref (ad 4), .int a1, .int a2, .int a3] : List Value).toArray below meth c H locs 0 0 (MQ below (va_Qi (fun (r' : Int32) (u : tq_S) => r' = r ∧ u = σ') (tq_E dC dI cI cL cZ (wo cI cL cZ ad) A) A) ([.ref (ad 4), .int a1, .int a2, .int a3] : List Value).toArray s 0 0 A) (F0 m 39 ls [])) := by
    intro n
    induction n with
    | zero => exact ⟨(fun _ _ _ _ h => by cases h), (fun _ _ _ _ h => by cases h), (fun _ _ _ _ h => by cases h)⟩
    | succ n ih =>
      refine ⟨?_, ?_, ?_⟩
      · intro x1 x2 x3 σ H locs ls hP hD hS hl h9
        obtain ⟨q9, hg, hn⟩ := tq_go_s h9 (show ¬ (0 : Nat) = tq_rt by decide)
        replace hg : bk_Th_addDemand_0 [x1, x2, x3] [] σ = some q9 := hg
        unfold bk_Th_addDemand_0 at hg
        refine lv_iconst (v := 0) hx hb d_Th_addDemand_0 (by decide) ?_
        refine lv_istore (lv' := [(4, .int 0), (0, .ref (ad 4)), (1, .int x1), (2, .int x2), (3, .int x3)]) hx hb d_Th_addDemand_1 hl (by decide) rfl (fun ls hl => ?_)
        exact ih.2.1 hP hD hS (lv_sub hl [1, 2, 3, 4, 0] rfl) (tq_gi hg hn)
      · intro x1 x2 x3 x4 σ H locs ls hP hD hS hl h9
        obtain ⟨q9, hg, hn⟩ := tq_go_s h9 (show ¬ (3 : Nat) = tq_rt by decide)
        replace hg : bk_Th_addDemand_3 [x1, x2, x3, x4] [] σ = some q9 := hg
        unfold bk_Th_addDemand_3 at hg
        refine lv_iload hx hb d_Th_addDemand_3 (lv_at hl 4 rfl) ?_
        refine lv_iload_n hx hb d_Th_addDemand_5 rfl (lv_at hl 2 rfl) ?_
        refine lv_icmp_ge (tgt := 33) hx hb d_Th_addDemand_6 (by decide) (fun c1 => ?_) (fun c1 => ?_)
        · replace hg := tq_if_t c1 hg
          refine lv_iconst (v := 0) hx hb d_Th_addDemand_33 (by decide) ?_
          refine lv_istore (lv' := [(4, .int 0), (0, .ref (ad 4)), (1, .int x1), (2, .int x2), (3, .int x3)]) hx hb d_Th_addDemand_34 hl (by decide) rfl (fun ls hl => ?_)
          refine lv_iconst (v := 0) hx hb d_Th_addDemand_36 (by decide) ?_
          refine lv_istore (lv' := [(5, .int 0), (4, .int 0), (0, .ref (ad 4)), (1, .int x1), (2, .int x2), (3, .int x3)]) hx hb d_Th_addDemand_37 hl (by decide) rfl (fun ls hl => ?_)
          exact ih.2.2 hP hD hS (lv_sub hl [2, 3, 4, 5, 1, 0] rfl) (tq_gi hg hn)
        · replace hg := tq_if_f c1 hg
          refine lv_aload_n hx hb d_Th_addDemand_9 rfl (lv_at hl 0 rfl) ?_
          refine va_get (D := (dC, dI)) (ci := 4) (v := .ref (ad 27)) (C := "TableauNodes$Things") (T := F_Th) (N := 15) hx hb hts in_Th hown hK hP 4 rfl rfl 8 (by decide) (hts _ tw_182) (fun _ h9 => h9) rfl d_Th_addDemand_10 ?_
          refine lv_iload_n hx hb d_Th_addDemand_13 rfl (lv_at hl 1 rfl) ?_
          refine lv_iload hx hb d_Th_addDemand_14 (lv_at hl 4 rfl) ?_
          refine lv_iadd hx hb d_Th_addDemand_16 ?_
          obtain ⟨g2, hg⟩ := tq_gd_s hg
          refine va_iald hx hb hK hP 27 0 rfl rfl g2 d_Th_addDemand_17 ?_
          refine lv_iload_n hx hb d_Th_addDemand_18 rfl (lv_at hl 3 rfl) ?_
          refine lv_iconst (v := (-1)) hx hb d_Th_addDemand_19 (by decide) ?_
          refine lv_ixor hx hb d_Th_addDemand_20 ?_
          refine lv_iand hx hb d_Th_addDemand_21 ?_
          refine lv_if_ne (tgt := 27) hx hb d_Th_addDemand_22 (by decide) (fun c3 => ?_) (fun c3 => ?_)
          · replace hg := tq_if_t c3 hg
            obtain ⟨v4, ev4, hg⟩ := tq_lj_s hg
            refine lv_iinc (v := v4) (lv' := [(4, .int v4), (0, .ref (ad 4)), (1, .int x1), (2, .int x2), (3, .int x3)]) hx hb d_Th_addDemand_27 hl (k := 4) rfl (by rw [ev4]; rfl) (by decide) rfl (fun ls hl => ?_)
            refine lv_goto (tgt := 3) hx hb d_Th_addDemand_30 (by decide) ?_
            exact ih.2.1 hP hD hS (lv_sub hl [1, 2, 3, 4, 0] rfl) (tq_gi hg hn)
          · replace hg := tq_if_n c3 hg
            refine lv_iload_n hx hb d_Th_addDemand_25 rfl (lv_at hl 2 rfl) ?_
            exact W.iret (v := x2) hx hb hr (fun t ht hW => ⟨⟨x2, σ, rfl, tq_grI hg hn, by rw [ht]; exact hP, va_K.moved hW.alike hK, hD⟩, hS.F ht⟩) hS.2.2 d_Th_addDemand_26
      · intro x1 x2 x3 x4 x5 σ H locs ls hP hD hS hl h9
        obtain ⟨q9, hg, hn⟩ := tq_go_s h9 (show ¬ (39 : Nat) = tq_rt by decide)
        replace hg : bk_Th_addDemand_39 [x1, x2, x3, x4, x5] [] σ = some q9 := hg
        unfold bk_Th_addDemand_39 at hg
        refine lv_iload hx hb d_Th_addDemand_39 (lv_at hl 5 rfl) ?_
        refine lv_iload_n hx hb d_Th_addDemand_41 rfl (lv_at hl 2 rfl) ?_
        refine lv_icmp_ge (tgt := 88) hx hb d_Th_addDemand_42 (by decide) (fun c5 => ?_) (fun c5 => ?_)
        · replace hg := tq_if_t c5 hg
          refine lv_aload_n hx hb d_Th_addDemand_88 rfl (lv_at hl 0 rfl) ?_
          refine va_get (D := (dC, dI)) (ci := 4) (v := .ref (ad 27)) (C := "TableauNodes$Things") (T := F_Th) (N := 15) hx hb hts in_Th hown hK hP 4 rfl rfl 8 (by decide) (hts _ tw_182) (fun _ h9 => h9) rfl d_Th_addDemand_89 ?_
          refine lv_iload_n hx hb d_Th_addDemand_92 rfl (lv_at hl 1 rfl) ?_
          refine lv_iload hx hb d_Th_addDemand_93 (lv_at hl 4 rfl) ?_
          refine lv_iadd hx hb d_Th_addDemand_95 ?_
          refine lv_iload_n hx hb d_Th_addDemand_96 rfl (lv_at hl 3 rfl) ?_
          obtain ⟨g6, hg⟩ := tq_gd_s hg
          refine va_iast hx hb hK hP hD hS 27 0 rfl rfl g6 d_Th_addDemand_97 (fun H locs hP hD hS => ?_)
          obtain ⟨σ7, eσ7, hg⟩ := tq_lj_s hg
          replace hP : va_P (dC, dI) tq_cl (wo cI cL cZ ad σ7) H := by rw [eσ7, ← ws_i15]; exact hP
          replace hD : va_D A (wo cI cL cZ ad σ7) := by rw [eσ7, ← ws_i15]; exact hD
          refine lv_iload hx hb d_Th_addDemand_98 (lv_at hl 4 rfl) ?_
          refine lv_iconst (v := 1) hx hb d_Th_addDemand_100 (by decide) ?_
          refine lv_iadd hx hb d_Th_addDemand_101 ?_
          exact W.iret (v := (x4 + 1)) hx hb hr (fun t ht hW => ⟨⟨(x4 + 1), σ7, rfl, tq_grI hg hn, by rw [ht]; exact hP, va_K.moved hW.alike hK, hD⟩, hS.F ht⟩) hS.2.2 d_Th_addDemand_102
        · replace hg := tq_if_f c5 hg
          refine lv_iload_n hx hb d_Th_addDemand_45 rfl (lv_at hl 3 rfl) ?_
          refine lv_aload_n hx hb d_Th_addDemand_46 rfl (lv_at hl 0 rfl) ?_
          refine va_get (D := (dC, dI)) (ci := 4) (v := .ref (ad 27)) (C := "TableauNodes$Things") (T := F_Th) (N := 15) hx hb hts in_Th hown hK hP 4 rfl rfl 8 (by decide) (hts _ tw_182) (fun _ h9 => h9) rfl d_Th_addDemand_47 ?_
          refine lv_iload_n hx hb d_Th_addDemand_50 rfl (lv_at hl 1 rfl) ?_
          refine lv_iload hx hb d_Th_addDemand_51 (lv_at hl 5 rfl) ?_
          refine lv_iadd hx hb d_Th_addDemand_53 ?_
          obtain ⟨g8, hg⟩ := tq_gd_s hg
          refine va_iald hx hb hK hP 27 0 rfl rfl g8 d_Th_addDemand_54 ?_
          refine lv_iconst (v := (-1)) hx hb d_Th_addDemand_55 (by decide) ?_
          refine lv_ixor hx hb d_Th_addDemand_56 ?_
          refine lv_iand hx hb d_Th_addDemand_57 ?_
          refine lv_if_eq (tgt := 82) hx hb d_Th_addDemand_58 (by decide) (fun c9 => ?_) (fun c9 => ?_)
          · replace hg := tq_if_t c9 hg
            obtain ⟨v10, ev10, hg⟩ := tq_lj_s hg
            refine lv_iinc (v := v10) (lv' := [(5, .int v10), (0, .ref (ad 4)), (1, .int x1), (2, .int x2), (3, .int x3), (4, .int x4)]) hx hb d_Th_addDemand_82 hl (k := 5) rfl (by rw [ev10]; rfl) (by decide) rfl (fun ls hl => ?_)
            refine lv_goto (tgt := 39) hx hb d_Th_addDemand_85 (by decide) ?_
            exact ih.2.2 hP hD hS (lv_sub hl [1, 2, 3, 4, 5, 0] rfl) (tq_gi hg hn)
          · replace hg := tq_if_f c9 hg
            refine lv_aload_n hx hb d_Th_addDemand_61 rfl (lv_at hl 0 rfl) ?_
            refine va_get (D := (dC, dI)) (ci := 4) (v := .ref (ad 27)) (C := "TableauNodes$Things") (T := F_Th) (N := 15) hx hb hts in_Th hown hK hP 4 rfl rfl 8 (by decide) (hts _ tw_182) (fun _ h9 => h9) rfl d_Th_addDemand_62 ?_
            refine lv_iload_n hx hb d_Th_addDemand_65 rfl (lv_at hl 1 rfl) ?_
            refine lv_iload hx hb d_Th_addDemand_66 (lv_at hl 4 rfl) ?_
            refine lv_iadd hx hb d_Th_addDemand_68 ?_
            refine lv_aload_n hx hb d_Th_addDemand_69 rfl (lv_at hl 0 rfl) ?_
            refine va_get (D := (dC, dI)) (ci := 4) (v := .ref (ad 27)) (C := "TableauNodes$Things") (T := F_Th) (N := 15) hx hb hts in_Th hown hK hP 4 rfl rfl 8 (by decide) (hts _ tw_182) (fun _ h9 => h9) rfl d_Th_addDemand_70 ?_
            refine lv_iload_n hx hb d_Th_addDemand_73 rfl (lv_at hl 1 rfl) ?_
            refine lv_iload hx hb d_Th_addDemand_74 (lv_at hl 5 rfl) ?_
            refine lv_iadd hx hb d_Th_addDemand_76 ?_
            obtain ⟨g11, hg⟩ := tq_gd_s hg
            refine va_iald hx hb hK hP 27 0 rfl rfl g11 d_Th_addDemand_77 ?_
            obtain ⟨g12, hg⟩ := tq_gd_s hg
            refine va_iast hx hb hK hP hD hS 27 0 rfl rfl g12 d_Th_addDemand_78 (fun H locs hP hD hS => ?_)
            obtain ⟨σ13, eσ13, hg⟩ := tq_lj_s hg
            replace hP : va_P (dC, dI) tq_cl (wo cI cL cZ ad σ13) H := by rw [eσ13, ← ws_i15]; exact hP
            replace hD : va_D A (wo cI cL cZ ad σ13) := by rw [eσ13, ← ws_i15]; exact hD
            obtain ⟨v14, ev14, hg⟩ := tq_lj_s hg
            refine lv_iinc (v := v14) (lv' := [(4, .int v14), (0, .ref (ad 4)), (1, .int x1), (2, .int x2), (3, .int x3), (5, .int x5)]) hx hb d_Th_addDemand_79 hl (k := 4) rfl (by rw [ev14]; rfl) (by decide) rfl (fun ls hl => ?_)
            obtain ⟨v15, ev15, hg⟩ := tq_lj_s hg
            refine lv_iinc (v := v15) (lv' := [(5, .int v15), (4, .int v14), (0, .ref (ad 4)), (1, .int x1), (2, .int x2), (3, .int x3)]) hx hb d_Th_addDemand_82 hl (k := 5) rfl (by rw [ev15]; rfl) (by decide) rfl (fun ls hl => ?_)
            refine lv_goto (tgt := 39) hx hb d_Th_addDemand_85 (by decide) ?_
            exact ih.2.2 hP hD hS (lv_sub hl [2, 3, 4, 5, 1, 0] rfl) (tq_gi hg hn)
  exact (key n0).1 hP hD hS hl h0
