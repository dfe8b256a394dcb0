theorem d_Tn_has_0 : decode prog_1_method_16_code 0 = .ok (.iload_n 1, 1) := by decide +kernel
theorem d_Tn_has_1 : decode prog_1_method_16_code 1 = .ok (.iconst 5, 1) := by decide +kernel
theorem d_Tn_has_2 : decode prog_1_method_16_code 2 = .ok (.invokestatic 41, 3) := by decide +kernel
theorem d_Tn_has_5 : decode prog_1_method_16_code 5 = .ok (.ifCond .eq 23, 3) := by decide +kernel
theorem d_Tn_has_8 : decode prog_1_method_16_code 8 = .ok (.iload_n 2, 1) := by decide +kernel
theorem d_Tn_has_9 : decode prog_1_method_16_code 9 = .ok (.iconst 4, 1) := by decide +kernel
theorem d_Tn_has_10 : decode prog_1_method_16_code 10 = .ok (.invokestatic 41, 3) := by decide +kernel
theorem d_Tn_has_13 : decode prog_1_method_16_code 13 = .ok (.ifCond .eq 15, 3) := by decide +kernel
theorem d_Tn_has_16 : decode prog_1_method_16_code 16 = .ok (.iload_n 3, 1) := by decide +kernel
theorem d_Tn_has_17 : decode prog_1_method_16_code 17 = .ok (.iconst 5, 1) := by decide +kernel
theorem d_Tn_has_18 : decode prog_1_method_16_code 18 = .ok (.invokestatic 41, 3) := by decide +kernel
theorem d_Tn_has_21 : decode prog_1_method_16_code 21 = .ok (.ifCond .eq 7, 3) := by decide +kernel
theorem d_Tn_has_24 : decode prog_1_method_16_code 24 = .ok (.iconst 1, 1) := by decide +kernel
theorem d_Tn_has_25 : decode prog_1_method_16_code 25 = .ok (.goto 4, 3) := by decide +kernel
theorem d_Tn_has_28 : decode prog_1_method_16_code 28 = .ok (.iconst 0, 1) := by decide +kernel
theorem d_Tn_has_29 : decode prog_1_method_16_code 29 = .ok (.istore 4, 2) := by decide +kernel
theorem d_Tn_has_31 : decode prog_1_method_16_code 31 = .ok (.iload 4, 2) := by decide +kernel
theorem d_Tn_has_33 : decode prog_1_method_16_code 33 = .ok (.ifCond .eq 16, 3) := by decide +kernel
theorem d_Tn_has_36 : decode prog_1_method_16_code 36 = .ok (.aload_n 0, 1) := by decide +kernel
theorem d_Tn_has_37 : decode prog_1_method_16_code 37 = .ok (.getfield 37, 3) := by decide +kernel
theorem d_Tn_has_40 : decode prog_1_method_16_code 40 = .ok (.iload_n 1, 1) := by decide +kernel
theorem d_Tn_has_41 : decode prog_1_method_16_code 41 = .ok (.iload_n 2, 1) := by decide +kernel
theorem d_Tn_has_42 : decode prog_1_method_16_code 42 = .ok (.iload_n 3, 1) := by decide +kernel
theorem d_Tn_has_43 : decode prog_1_method_16_code 43 = .ok (.invokevirtual 102, 3) := by decide +kernel
theorem d_Tn_has_46 : decode prog_1_method_16_code 46 = .ok (.goto 4, 3) := by decide +kernel
theorem d_Tn_has_49 : decode prog_1_method_16_code 49 = .ok (.iconst (-1), 1) := by decide +kernel
theorem d_Tn_has_50 : decode prog_1_method_16_code 50 = .ok (.ireturn, 1) := by decide +kernel
theorem d_Tn_forget_0 : decode prog_1_method_17_code 0 = .ok (.aload_n 0, 1) := by decide +kernel
theorem d_Tn_forget_1 : decode prog_1_method_17_code 1 = .ok (.getfield 37, 3) := by decide +kernel
theorem d_Tn_forget_4 : decode prog_1_method_17_code 4 = .ok (.invokevirtual 105, 3) := by decide +kernel
theorem d_Tn_forget_7 : decode prog_1_method_17_code 7 = .ok (.ireturn, 1) := by decide +kernel
theorem d_Tn_run_0 : decode prog_1_method_18_code 0 = .ok (.aload_n 0, 1) := by decide +kernel
theorem d_Tn_run_1 : decode prog_1_method_18_code 1 = .ok (.getfield 28, 3) := by decide +kernel
theorem d_Tn_run_4 : decode prog_1_method_18_code 4 = .ok (.invokevirtual 79, 3) := by decide +kernel
theorem d_Tn_run_7 : decode prog_1_method_18_code 7 = .ok (.aload_n 0, 1) := by decide +kernel
theorem d_Tn_run_8 : decode prog_1_method_18_code 8 = .ok (.getfield 37, 3) := by decide +kernel
theorem d_Tn_run_11 : decode prog_1_method_18_code 11 = .ok (.invokevirtual 108, 3) := by decide +kernel
theorem d_Tn_run_14 : decode prog_1_method_18_code 14 = .ok (.aload_n 0, 1) := by decide +kernel
theorem d_Tn_run_15 : decode prog_1_method_18_code 15 = .ok (.getfield 37, 3) := by decide +kernel
theorem d_Tn_run_18 : decode prog_1_method_18_code 18 = .ok (.invokevirtual 111, 3) := by decide +kernel
theorem d_Tn_run_21 : decode prog_1_method_18_code 21 = .ok (.ifCond .eq 7, 3) := by decide +kernel
theorem d_Tn_run_24 : decode prog_1_method_18_code 24 = .ok (.iconst 1, 1) := by decide +kernel
theorem d_Tn_run_25 : decode prog_1_method_18_code 25 = .ok (.goto 4, 3) := by decide +kernel
theorem d_Tn_run_28 : decode prog_1_method_18_code 28 = .ok (.iconst 0, 1) := by decide +kernel
theorem d_Tn_run_29 : decode prog_1_method_18_code 29 = .ok (.ireturn, 1) := by decide +kernel
theorem d_Tn_model_0 : decode prog_1_method_19_code 0 = .ok (.iload_n 1, 1) := by decide +kernel
theorem d_Tn_model_1 : decode prog_1_method_19_code 1 = .ok (.iconst 5, 1) := by decide +kernel
theorem d_Tn_model_2 : decode prog_1_method_19_code 2 = .ok (.invokestatic 41, 3) := by decide +kernel
theorem d_Tn_model_5 : decode prog_1_method_19_code 5 = .ok (.ifCond .ne 5, 3) := by decide +kernel
theorem d_Tn_model_8 : decode prog_1_method_19_code 8 = .ok (.iconst (-1), 1) := by decide +kernel
theorem d_Tn_model_9 : decode prog_1_method_19_code 9 = .ok (.ireturn, 1) := by decide +kernel
theorem d_Tn_model_10 : decode prog_1_method_19_code 10 = .ok (.aload_n 0, 1) := by decide +kernel
theorem d_Tn_model_11 : decode prog_1_method_19_code 11 = .ok (.getfield 28, 3) := by decide +kernel
theorem d_Tn_model_14 : decode prog_1_method_19_code 14 = .ok (.invokevirtual 79, 3) := by decide +kernel
theorem d_Tn_model_17 : decode prog_1_method_19_code 17 = .ok (.aload_n 0, 1) := by decide +kernel
theorem d_Tn_model_18 : decode prog_1_method_19_code 18 = .ok (.getfield 37, 3) := by decide +kernel
theorem d_Tn_model_21 : decode prog_1_method_19_code 21 = .ok (.invokevirtual 108, 3) := by decide +kernel
theorem d_Tn_model_24 : decode prog_1_method_19_code 24 = .ok (.aload_n 0, 1) := by decide +kernel
theorem d_Tn_model_25 : decode prog_1_method_19_code 25 = .ok (.getfield 37, 3) := by decide +kernel
theorem d_Tn_model_28 : decode prog_1_method_19_code 28 = .ok (.iload_n 1, 1) := by decide +kernel
theorem d_Tn_model_29 : decode prog_1_method_19_code 29 = .ok (.invokevirtual 115, 3) := by decide +kernel
theorem d_Tn_model_32 : decode prog_1_method_19_code 32 = .ok (.ireturn, 1) := by decide +kernel
theorem d_Tn_surely_0 : decode prog_1_method_20_code 0 = .ok (.iload_n 1, 1) := by decide +kernel
theorem d_Tn_surely_1 : decode prog_1_method_20_code 1 = .ok (.iconst 5, 1) := by decide +kernel
theorem d_Tn_surely_2 : decode prog_1_method_20_code 2 = .ok (.invokestatic 41, 3) := by decide +kernel
theorem d_Tn_surely_5 : decode prog_1_method_20_code 5 = .ok (.ifCond .eq 14, 3) := by decide +kernel
theorem d_Tn_surely_8 : decode prog_1_method_20_code 8 = .ok (.aload_n 0, 1) := by decide +kernel
theorem d_Tn_surely_9 : decode prog_1_method_20_code 9 = .ok (.getfield 12, 3) := by decide +kernel
theorem d_Tn_surely_12 : decode prog_1_method_20_code 12 = .ok (.iload_n 2, 1) := by decide +kernel
theorem d_Tn_surely_13 : decode prog_1_method_20_code 13 = .ok (.invokevirtual 49, 3) := by decide +kernel
theorem d_Tn_surely_16 : decode prog_1_method_20_code 16 = .ok (.ifCond .ne 5, 3) := by decide +kernel
theorem d_Tn_surely_19 : decode prog_1_method_20_code 19 = .ok (.iconst (-1), 1) := by decide +kernel
theorem d_Tn_surely_20 : decode prog_1_method_20_code 20 = .ok (.ireturn, 1) := by decide +kernel
theorem d_Tn_surely_21 : decode prog_1_method_20_code 21 = .ok (.aload_n 0, 1) := by decide +kernel
theorem d_Tn_surely_22 : decode prog_1_method_20_code 22 = .ok (.getfield 28, 3) := by decide +kernel
theorem d_Tn_surely_25 : decode prog_1_method_20_code 25 = .ok (.invokevirtual 79, 3) := by decide +kernel
theorem d_Tn_surely_28 : decode prog_1_method_20_code 28 = .ok (.aload_n 0, 1) := by decide +kernel
theorem d_Tn_surely_29 : decode prog_1_method_20_code 29 = .ok (.getfield 37, 3) := by decide +kernel
theorem d_Tn_surely_32 : decode prog_1_method_20_code 32 = .ok (.invokevirtual 108, 3) := by decide +kernel
theorem d_Tn_surely_35 : decode prog_1_method_20_code 35 = .ok (.aload_n 0, 1) := by decide +kernel
theorem d_Tn_surely_36 : decode prog_1_method_20_code 36 = .ok (.getfield 37, 3) := by decide +kernel
theorem d_Tn_surely_39 : decode prog_1_method_20_code 39 = .ok (.iload_n 1, 1) := by decide +kernel
theorem d_Tn_surely_40 : decode prog_1_method_20_code 40 = .ok (.iload_n 2, 1) := by decide +kernel
theorem d_Tn_surely_41 : decode prog_1_method_20_code 41 = .ok (.invokevirtual 118, 3) := by decide +kernel
theorem d_Tn_surely_44 : decode prog_1_method_20_code 44 = .ok (.ifCond .eq 7, 3) := by decide +kernel
theorem d_Tn_surely_47 : decode prog_1_method_20_code 47 = .ok (.iconst 0, 1) := by decide +kernel
theorem d_Tn_surely_48 : decode prog_1_method_20_code 48 = .ok (.goto 4, 3) := by decide +kernel
theorem d_Tn_surely_51 : decode prog_1_method_20_code 51 = .ok (.iconst 1, 1) := by decide +kernel
theorem d_Tn_surely_52 : decode prog_1_method_20_code 52 = .ok (.ireturn, 1) := by decide +kernel
theorem d_Mo_isConcept_0 : decode prog_7_method_2_code 0 = .ok (.iload_n 1, 1) := by decide +kernel
theorem d_Mo_isConcept_1 : decode prog_7_method_2_code 1 = .ok (.ifCond .lt 15, 3) := by decide +kernel
theorem d_Mo_isConcept_4 : decode prog_7_method_2_code 4 = .ok (.iload_n 1, 1) := by decide +kernel
theorem d_Mo_isConcept_5 : decode prog_7_method_2_code 5 = .ok (.aload_n 0, 1) := by decide +kernel
theorem d_Mo_isConcept_6 : decode prog_7_method_2_code 6 = .ok (.getfield 66, 3) := by decide +kernel
theorem d_Mo_isConcept_9 : decode prog_7_method_2_code 9 = .ok (.if_icmp .ge 7, 3) := by decide +kernel
theorem d_Mo_isConcept_12 : decode prog_7_method_2_code 12 = .ok (.iconst 1, 1) := by decide +kernel
theorem d_Mo_isConcept_13 : decode prog_7_method_2_code 13 = .ok (.goto 4, 3) := by decide +kernel
theorem d_Mo_isConcept_16 : decode prog_7_method_2_code 16 = .ok (.iconst 0, 1) := by decide +kernel
theorem d_Mo_isConcept_17 : decode prog_7_method_2_code 17 = .ok (.ireturn, 1) := by decide +kernel
theorem d_Mo_isRole_0 : decode prog_7_method_3_code 0 = .ok (.iload_n 0, 1) := by decide +kernel
theorem d_Mo_isRole_1 : decode prog_7_method_3_code 1 = .ok (.ifCond .lt 12, 3) := by decide +kernel
theorem d_Mo_isRole_4 : decode prog_7_method_3_code 4 = .ok (.iload_n 0, 1) := by decide +kernel
theorem d_Mo_isRole_5 : decode prog_7_method_3_code 5 = .ok (.iconst 4, 1) := by decide +kernel
theorem d_Mo_isRole_6 : decode prog_7_method_3_code 6 = .ok (.if_icmp .ge 7, 3) := by decide +kernel
theorem d_Mo_isRole_9 : decode prog_7_method_3_code 9 = .ok (.iconst 1, 1) := by decide +kernel
theorem d_Mo_isRole_10 : decode prog_7_method_3_code 10 = .ok (.goto 4, 3) := by decide +kernel
theorem d_Mo_isRole_13 : decode prog_7_method_3_code 13 = .ok (.iconst 0, 1) := by decide +kernel
theorem d_Mo_isRole_14 : decode prog_7_method_3_code 14 = .ok (.ireturn, 1) := by decide +kernel
theorem d_Mo_isThing_0 : decode prog_7_method_4_code 0 = .ok (.iload_n 0, 1) := by decide +kernel
theorem d_Mo_isThing_1 : decode prog_7_method_4_code 1 = .ok (.ifCond .lt 12, 3) := by decide +kernel
theorem d_Mo_isThing_4 : decode prog_7_method_4_code 4 = .ok (.iload_n 0, 1) := by decide +kernel
theorem d_Mo_isThing_5 : decode prog_7_method_4_code 5 = .ok (.iconst 5, 1) := by decide +kernel
theorem d_Mo_isThing_6 : decode prog_7_method_4_code 6 = .ok (.if_icmp .ge 7, 3) := by decide +kernel
theorem d_Mo_isThing_9 : decode prog_7_method_4_code 9 = .ok (.iconst 1, 1) := by decide +kernel
theorem d_Mo_isThing_10 : decode prog_7_method_4_code 10 = .ok (.goto 4, 3) := by decide +kernel
theorem d_Mo_isThing_13 : decode prog_7_method_4_code 13 = .ok (.iconst 0, 1) := by decide +kernel
theorem d_Mo_isThing_14 : decode prog_7_method_4_code 14 = .ok (.ireturn, 1) := by decide +kernel
theorem d_Mo_find_0 : decode prog_7_method_5_code 0 = .ok (.iconst 0, 1) := by decide +kernel
theorem d_Mo_find_1 : decode prog_7_method_5_code 1 = .ok (.istore 4, 2) := by decide +kernel
theorem d_Mo_find_3 : decode prog_7_method_5_code 3 = .ok (.iload 4, 2) := by decide +kernel
theorem d_Mo_find_5 : decode prog_7_method_5_code 5 = .ok (.aload_n 0, 1) := by decide +kernel
theorem d_Mo_find_6 : decode prog_7_method_5_code 6 = .ok (.getfield 66, 3) := by decide +kernel
theorem d_Mo_find_9 : decode prog_7_method_5_code 9 = .ok (.if_icmp .ge 42, 3) := by decide +kernel
theorem d_Mo_find_12 : decode prog_7_method_5_code 12 = .ok (.aload_n 0, 1) := by decide +kernel
theorem d_Mo_find_13 : decode prog_7_method_5_code 13 = .ok (.getfield 7, 3) := by decide +kernel
theorem d_Mo_find_16 : decode prog_7_method_5_code 16 = .ok (.iload 4, 2) := by decide +kernel
theorem d_Mo_find_18 : decode prog_7_method_5_code 18 = .ok (.iaload, 1) := by decide +kernel
theorem d_Mo_find_19 : decode prog_7_method_5_code 19 = .ok (.iload_n 1, 1) := by decide +kernel
theorem d_Mo_find_20 : decode prog_7_method_5_code 20 = .ok (.if_icmp .ne 25, 3) := by decide +kernel
theorem d_Mo_find_23 : decode prog_7_method_5_code 23 = .ok (.aload_n 0, 1) := by decide +kernel
theorem d_Mo_find_24 : decode prog_7_method_5_code 24 = .ok (.getfield 13, 3) := by decide +kernel
theorem d_Mo_find_27 : decode prog_7_method_5_code 27 = .ok (.iload 4, 2) := by decide +kernel
theorem d_Mo_find_29 : decode prog_7_method_5_code 29 = .ok (.iaload, 1) := by decide +kernel
theorem d_Mo_find_30 : decode prog_7_method_5_code 30 = .ok (.iload_n 2, 1) := by decide +kernel
theorem d_Mo_find_31 : decode prog_7_method_5_code 31 = .ok (.if_icmp .ne 14, 3) := by decide +kernel
theorem d_Mo_find_34 : decode prog_7_method_5_code 34 = .ok (.aload_n 0, 1) := by decide +kernel
theorem d_Mo_find_35 : decode prog_7_method_5_code 35 = .ok (.getfield 16, 3) := by decide +kernel
theorem d_Mo_find_38 : decode prog_7_method_5_code 38 = .ok (.iload 4, 2) := by decide +kernel
theorem d_Mo_find_40 : decode prog_7_method_5_code 40 = .ok (.iaload, 1) := by decide +kernel
theorem d_Mo_find_41 : decode prog_7_method_5_code 41 = .ok (.iload_n 3, 1) := by decide +kernel
theorem d_Mo_find_42 : decode prog_7_method_5_code 42 = .ok (.if_icmp .eq 9, 3) := by decide +kernel
theorem d_Mo_find_45 : decode prog_7_method_5_code 45 = .ok (.iinc 4 1, 3) := by decide +kernel
theorem d_Mo_find_48 : decode prog_7_method_5_code 48 = .ok (.goto (-45), 3) := by decide +kernel
theorem d_Mo_find_51 : decode prog_7_method_5_code 51 = .ok (.iload 4, 2) := by decide +kernel
theorem d_Mo_find_53 : decode prog_7_method_5_code 53 = .ok (.ireturn, 1) := by decide +kernel
theorem d_Mo_make_0 : decode prog_7_method_6_code 0 = .ok (.aload_n 0, 1) := by decide +kernel
theorem d_Mo_make_1 : decode prog_7_method_6_code 1 = .ok (.iload_n 1, 1) := by decide +kernel
theorem d_Mo_make_2 : decode prog_7_method_6_code 2 = .ok (.iload_n 2, 1) := by decide +kernel
theorem d_Mo_make_3 : decode prog_7_method_6_code 3 = .ok (.iload_n 3, 1) := by decide +kernel
theorem d_Mo_make_4 : decode prog_7_method_6_code 4 = .ok (.invokevirtual 70, 3) := by decide +kernel
theorem d_Mo_make_7 : decode prog_7_method_6_code 7 = .ok (.istore 4, 2) := by decide +kernel
theorem d_Mo_make_9 : decode prog_7_method_6_code 9 = .ok (.iload 4, 2) := by decide +kernel
theorem d_Mo_make_11 : decode prog_7_method_6_code 11 = .ok (.aload_n 0, 1) := by decide +kernel
theorem d_Mo_make_12 : decode prog_7_method_6_code 12 = .ok (.getfield 66, 3) := by decide +kernel
theorem d_Mo_make_15 : decode prog_7_method_6_code 15 = .ok (.if_icmp .ge 6, 3) := by decide +kernel
theorem d_Mo_make_18 : decode prog_7_method_6_code 18 = .ok (.iload 4, 2) := by decide +kernel
theorem d_Mo_make_20 : decode prog_7_method_6_code 20 = .ok (.ireturn, 1) := by decide +kernel
theorem d_Mo_make_21 : decode prog_7_method_6_code 21 = .ok (.iload_n 1, 1) := by decide +kernel
theorem d_Mo_make_22 : decode prog_7_method_6_code 22 = .ok (.iconst 2, 1) := by decide +kernel
theorem d_Mo_make_23 : decode prog_7_method_6_code 23 = .ok (.if_icmp .eq 9, 3) := by decide +kernel
theorem d_Mo_make_26 : decode prog_7_method_6_code 26 = .ok (.iload_n 1, 1) := by decide +kernel
theorem d_Mo_make_27 : decode prog_7_method_6_code 27 = .ok (.bipush 6, 2) := by decide +kernel
theorem d_Mo_make_29 : decode prog_7_method_6_code 29 = .ok (.if_icmp .ne 7, 3) := by decide +kernel
theorem d_Mo_make_32 : decode prog_7_method_6_code 32 = .ok (.iconst 1, 1) := by decide +kernel
theorem d_Mo_make_33 : decode prog_7_method_6_code 33 = .ok (.goto 4, 3) := by decide +kernel
theorem d_Mo_make_36 : decode prog_7_method_6_code 36 = .ok (.iconst 0, 1) := by decide +kernel
theorem d_Mo_make_37 : decode prog_7_method_6_code 37 = .ok (.istore 5, 2) := by decide +kernel
theorem d_Mo_make_39 : decode prog_7_method_6_code 39 = .ok (.aload_n 0, 1) := by decide +kernel
theorem d_Mo_make_40 : decode prog_7_method_6_code 40 = .ok (.getfield 66, 3) := by decide +kernel
theorem d_Mo_make_43 : decode prog_7_method_6_code 43 = .ok (.bipush 80, 2) := by decide +kernel
theorem d_Mo_make_45 : decode prog_7_method_6_code 45 = .ok (.if_icmp .eq 17, 3) := by decide +kernel
theorem d_Mo_make_48 : decode prog_7_method_6_code 48 = .ok (.iload 5, 2) := by decide +kernel
theorem d_Mo_make_50 : decode prog_7_method_6_code 50 = .ok (.ifCond .eq 15, 3) := by decide +kernel
theorem d_Mo_make_53 : decode prog_7_method_6_code 53 = .ok (.aload_n 0, 1) := by decide +kernel
theorem d_Mo_make_54 : decode prog_7_method_6_code 54 = .ok (.getfield 74, 3) := by decide +kernel
theorem d_Mo_make_57 : decode prog_7_method_6_code 57 = .ok (.bipush 10, 2) := by decide +kernel
theorem d_Mo_make_59 : decode prog_7_method_6_code 59 = .ok (.if_icmp .ne 6, 3) := by decide +kernel
theorem d_Mo_make_62 : decode prog_7_method_6_code 62 = .ok (.bipush (-3), 2) := by decide +kernel
theorem d_Mo_make_64 : decode prog_7_method_6_code 64 = .ok (.ireturn, 1) := by decide +kernel
theorem d_Mo_make_65 : decode prog_7_method_6_code 65 = .ok (.aload_n 0, 1) := by decide +kernel
theorem d_Mo_make_66 : decode prog_7_method_6_code 66 = .ok (.getfield 7, 3) := by decide +kernel
theorem d_Mo_make_69 : decode prog_7_method_6_code 69 = .ok (.iload 4, 2) := by decide +kernel
theorem d_Mo_make_71 : decode prog_7_method_6_code 71 = .ok (.iload_n 1, 1) := by decide +kernel
theorem d_Mo_make_72 : decode prog_7_method_6_code 72 = .ok (.iastore, 1) := by decide +kernel
theorem d_Mo_make_73 : decode prog_7_method_6_code 73 = .ok (.aload_n 0, 1) := by decide +kernel
theorem d_Mo_make_74 : decode prog_7_method_6_code 74 = .ok (.getfield 13, 3) := by decide +kernel
theorem d_Mo_make_77 : decode prog_7_method_6_code 77 = .ok (.iload 4, 2) := by decide +kernel
theorem d_Mo_make_79 : decode prog_7_method_6_code 79 = .ok (.iload_n 2, 1) := by decide +kernel
theorem d_Mo_make_80 : decode prog_7_method_6_code 80 = .ok (.iastore, 1) := by decide +kernel
theorem d_Mo_make_81 : decode prog_7_method_6_code 81 = .ok (.aload_n 0, 1) := by decide +kernel
theorem d_Mo_make_82 : decode prog_7_method_6_code 82 = .ok (.getfield 16, 3) := by decide +kernel
theorem d_Mo_make_85 : decode prog_7_method_6_code 85 = .ok (.iload 4, 2) := by decide +kernel
theorem d_Mo_make_87 : decode prog_7_method_6_code 87 = .ok (.iload_n 3, 1) := by decide +kernel
theorem d_Mo_make_88 : decode prog_7_method_6_code 88 = .ok (.iastore, 1) := by decide +kernel
theorem d_Mo_make_89 : decode prog_7_method_6_code 89 = .ok (.iload 5, 2) := by decide +kernel
theorem d_Mo_make_91 : decode prog_7_method_6_code 91 = .ok (.ifCond .eq 24, 3) := by decide +kernel
theorem d_Mo_make_94 : decode prog_7_method_6_code 94 = .ok (.aload_n 0, 1) := by decide +kernel
theorem d_Mo_make_95 : decode prog_7_method_6_code 95 = .ok (.getfield 19, 3) := by decide +kernel
theorem d_Mo_make_98 : decode prog_7_method_6_code 98 = .ok (.aload_n 0, 1) := by decide +kernel
theorem d_Mo_make_99 : decode prog_7_method_6_code 99 = .ok (.getfield 74, 3) := by decide +kernel
theorem d_Mo_make_102 : decode prog_7_method_6_code 102 = .ok (.iload 4, 2) := by decide +kernel
theorem d_Mo_make_104 : decode prog_7_method_6_code 104 = .ok (.iastore, 1) := by decide +kernel
theorem d_Mo_make_105 : decode prog_7_method_6_code 105 = .ok (.aload_n 0, 1) := by decide +kernel
theorem d_Mo_make_106 : decode prog_7_method_6_code 106 = .ok (.dup, 1) := by decide +kernel
theorem d_Mo_make_107 : decode prog_7_method_6_code 107 = .ok (.getfield 74, 3) := by decide +kernel
theorem d_Mo_make_110 : decode prog_7_method_6_code 110 = .ok (.iconst 1, 1) := by decide +kernel
theorem d_Mo_make_111 : decode prog_7_method_6_code 111 = .ok (.iadd, 1) := by decide +kernel
theorem d_Mo_make_112 : decode prog_7_method_6_code 112 = .ok (.putfield 74, 3) := by decide +kernel
theorem d_Mo_make_115 : decode prog_7_method_6_code 115 = .ok (.aload_n 0, 1) := by decide +kernel
theorem d_Mo_make_116 : decode prog_7_method_6_code 116 = .ok (.dup, 1) := by decide +kernel
theorem d_Mo_make_117 : decode prog_7_method_6_code 117 = .ok (.getfield 66, 3) := by decide +kernel
theorem d_Mo_make_120 : decode prog_7_method_6_code 120 = .ok (.iconst 1, 1) := by decide +kernel
theorem d_Mo_make_121 : decode prog_7_method_6_code 121 = .ok (.iadd, 1) := by decide +kernel
theorem d_Mo_make_122 : decode prog_7_method_6_code 122 = .ok (.putfield 66, 3) := by decide +kernel
theorem d_Mo_make_125 : decode prog_7_method_6_code 125 = .ok (.aload_n 0, 1) := by decide +kernel
theorem d_Mo_make_126 : decode prog_7_method_6_code 126 = .ok (.iconst 0, 1) := by decide +kernel
theorem d_Mo_make_127 : decode prog_7_method_6_code 127 = .ok (.putfield 77, 3) := by decide +kernel
theorem d_Mo_make_130 : decode prog_7_method_6_code 130 = .ok (.iload 4, 2) := by decide +kernel
theorem d_Mo_make_132 : decode prog_7_method_6_code 132 = .ok (.ireturn, 1) := by decide +kernel
theorem d_Mo_class0_0 : decode prog_7_method_7_code 0 = .ok (.iload_n 1, 1) := by decide +kernel
theorem d_Mo_class0_1 : decode prog_7_method_7_code 1 = .ok (.ifCond .lt 9, 3) := by decide +kernel
theorem d_Mo_class0_4 : decode prog_7_method_7_code 4 = .ok (.iload_n 1, 1) := by decide +kernel
theorem d_Mo_class0_5 : decode prog_7_method_7_code 5 = .ok (.bipush 9, 2) := by decide +kernel
theorem d_Mo_class0_7 : decode prog_7_method_7_code 7 = .ok (.if_icmp .le 7, 3) := by decide +kernel
theorem d_Mo_class0_10 : decode prog_7_method_7_code 10 = .ok (.iconst (-1), 1) := by decide +kernel
theorem d_Mo_class0_11 : decode prog_7_method_7_code 11 = .ok (.goto 10, 3) := by decide +kernel
theorem d_Mo_class0_14 : decode prog_7_method_7_code 14 = .ok (.aload_n 0, 1) := by decide +kernel
theorem d_Mo_class0_15 : decode prog_7_method_7_code 15 = .ok (.iconst 2, 1) := by decide +kernel
theorem d_Mo_class0_16 : decode prog_7_method_7_code 16 = .ok (.iload_n 1, 1) := by decide +kernel
theorem d_Mo_class0_17 : decode prog_7_method_7_code 17 = .ok (.iconst 0, 1) := by decide +kernel
theorem d_Mo_class0_18 : decode prog_7_method_7_code 18 = .ok (.invokevirtual 81, 3) := by decide +kernel
theorem d_Mo_class0_21 : decode prog_7_method_7_code 21 = .ok (.ireturn, 1) := by decide +kernel
theorem d_Mo_concept_0 : decode prog_7_method_8_code 0 = .ok (.iload_n 1, 1) := by decide +kernel
theorem d_Mo_concept_1 : decode prog_7_method_8_code 1 = .ok (.iconst 3, 1) := by decide +kernel
theorem d_Mo_concept_2 : decode prog_7_method_8_code 2 = .ok (.if_icmp .ne 23, 3) := by decide +kernel
theorem d_Mo_concept_5 : decode prog_7_method_8_code 5 = .ok (.aload_n 0, 1) := by decide +kernel
theorem d_Mo_concept_6 : decode prog_7_method_8_code 6 = .ok (.iload_n 2, 1) := by decide +kernel
theorem d_Mo_concept_7 : decode prog_7_method_8_code 7 = .ok (.invokevirtual 84, 3) := by decide +kernel
theorem d_Mo_concept_10 : decode prog_7_method_8_code 10 = .ok (.ifCond .eq 13, 3) := by decide +kernel
theorem d_Mo_concept_13 : decode prog_7_method_8_code 13 = .ok (.aload_n 0, 1) := by decide +kernel
theorem d_Mo_concept_14 : decode prog_7_method_8_code 14 = .ok (.iconst 3, 1) := by decide +kernel
theorem d_Mo_concept_15 : decode prog_7_method_8_code 15 = .ok (.iload_n 2, 1) := by decide +kernel
theorem d_Mo_concept_16 : decode prog_7_method_8_code 16 = .ok (.iconst 0, 1) := by decide +kernel
theorem d_Mo_concept_17 : decode prog_7_method_8_code 17 = .ok (.invokevirtual 81, 3) := by decide +kernel
theorem d_Mo_concept_20 : decode prog_7_method_8_code 20 = .ok (.goto 4, 3) := by decide +kernel
theorem d_Mo_concept_23 : decode prog_7_method_8_code 23 = .ok (.iconst (-1), 1) := by decide +kernel
theorem d_Mo_concept_24 : decode prog_7_method_8_code 24 = .ok (.ireturn, 1) := by decide +kernel
theorem d_Mo_concept_25 : decode prog_7_method_8_code 25 = .ok (.iload_n 1, 1) := by decide +kernel
theorem d_Mo_concept_26 : decode prog_7_method_8_code 26 = .ok (.iconst 4, 1) := by decide +kernel
theorem d_Mo_concept_27 : decode prog_7_method_8_code 27 = .ok (.if_icmp .eq 8, 3) := by decide +kernel
theorem d_Mo_concept_30 : decode prog_7_method_8_code 30 = .ok (.iload_n 1, 1) := by decide +kernel
theorem d_Mo_concept_31 : decode prog_7_method_8_code 31 = .ok (.iconst 5, 1) := by decide +kernel
theorem d_Mo_concept_32 : decode prog_7_method_8_code 32 = .ok (.if_icmp .ne 31, 3) := by decide +kernel
theorem d_Mo_concept_35 : decode prog_7_method_8_code 35 = .ok (.aload_n 0, 1) := by decide +kernel
theorem d_Mo_concept_36 : decode prog_7_method_8_code 36 = .ok (.iload_n 2, 1) := by decide +kernel
theorem d_Mo_concept_37 : decode prog_7_method_8_code 37 = .ok (.invokevirtual 84, 3) := by decide +kernel
theorem d_Mo_concept_40 : decode prog_7_method_8_code 40 = .ok (.ifCond .eq 21, 3) := by decide +kernel
theorem d_Mo_concept_43 : decode prog_7_method_8_code 43 = .ok (.aload_n 0, 1) := by decide +kernel
theorem d_Mo_concept_44 : decode prog_7_method_8_code 44 = .ok (.iload_n 3, 1) := by decide +kernel
theorem d_Mo_concept_45 : decode prog_7_method_8_code 45 = .ok (.invokevirtual 84, 3) := by decide +kernel
theorem d_Mo_concept_48 : decode prog_7_method_8_code 48 = .ok (.ifCond .eq 13, 3) := by decide +kernel
theorem d_Mo_concept_51 : decode prog_7_method_8_code 51 = .ok (.aload_n 0, 1) := by decide +kernel
theorem d_Mo_concept_52 : decode prog_7_method_8_code 52 = .ok (.iload_n 1, 1) := by decide +kernel
theorem d_Mo_concept_53 : decode prog_7_method_8_code 53 = .ok (.iload_n 2, 1) := by decide +kernel
theorem d_Mo_concept_54 : decode prog_7_method_8_code 54 = .ok (.iload_n 3, 1) := by decide +kernel
theorem d_Mo_concept_55 : decode prog_7_method_8_code 55 = .ok (.invokevirtual 81, 3) := by decide +kernel
theorem d_Mo_concept_58 : decode prog_7_method_8_code 58 = .ok (.goto 4, 3) := by decide +kernel
theorem d_Mo_concept_61 : decode prog_7_method_8_code 61 = .ok (.iconst (-1), 1) := by decide +kernel
theorem d_Mo_concept_62 : decode prog_7_method_8_code 62 = .ok (.ireturn, 1) := by decide +kernel
theorem d_Mo_concept_63 : decode prog_7_method_8_code 63 = .ok (.iload_n 1, 1) := by decide +kernel
theorem d_Mo_concept_64 : decode prog_7_method_8_code 64 = .ok (.bipush 6, 2) := by decide +kernel
theorem d_Mo_concept_66 : decode prog_7_method_8_code 66 = .ok (.if_icmp .eq 9, 3) := by decide +kernel
theorem d_Mo_concept_69 : decode prog_7_method_8_code 69 = .ok (.iload_n 1, 1) := by decide +kernel
theorem d_Mo_concept_70 : decode prog_7_method_8_code 70 = .ok (.bipush 7, 2) := by decide +kernel
theorem d_Mo_concept_72 : decode prog_7_method_8_code 72 = .ok (.if_icmp .ne 18, 3) := by decide +kernel
theorem d_Mo_concept_75 : decode prog_7_method_8_code 75 = .ok (.iload_n 2, 1) := by decide +kernel
theorem d_Mo_concept_76 : decode prog_7_method_8_code 76 = .ok (.invokestatic 88, 3) := by decide +kernel
theorem d_Mo_concept_79 : decode prog_7_method_8_code 79 = .ok (.ifCond .eq 11, 3) := by decide +kernel
theorem d_Mo_concept_82 : decode prog_7_method_8_code 82 = .ok (.aload_n 0, 1) := by decide +kernel
theorem d_Mo_concept_83 : decode prog_7_method_8_code 83 = .ok (.iload_n 3, 1) := by decide +kernel
theorem d_Mo_concept_84 : decode prog_7_method_8_code 84 = .ok (.invokevirtual 84, 3) := by decide +kernel
theorem d_Mo_concept_87 : decode prog_7_method_8_code 87 = .ok (.ifCond .ne 5, 3) := by decide +kernel
theorem d_Mo_concept_90 : decode prog_7_method_8_code 90 = .ok (.iconst (-1), 1) := by decide +kernel
theorem d_Mo_concept_91 : decode prog_7_method_8_code 91 = .ok (.ireturn, 1) := by decide +kernel
theorem d_Mo_concept_92 : decode prog_7_method_8_code 92 = .ok (.iload_n 1, 1) := by decide +kernel
theorem d_Mo_concept_93 : decode prog_7_method_8_code 93 = .ok (.bipush 6, 2) := by decide +kernel
theorem d_Mo_concept_95 : decode prog_7_method_8_code 95 = .ok (.if_icmp .ne 12, 3) := by decide +kernel
theorem d_Mo_concept_98 : decode prog_7_method_8_code 98 = .ok (.aload_n 0, 1) := by decide +kernel
theorem d_Mo_concept_99 : decode prog_7_method_8_code 99 = .ok (.bipush 6, 2) := by decide +kernel
theorem d_Mo_concept_101 : decode prog_7_method_8_code 101 = .ok (.iload_n 2, 1) := by decide +kernel
theorem d_Mo_concept_102 : decode prog_7_method_8_code 102 = .ok (.iload_n 3, 1) := by decide +kernel
theorem d_Mo_concept_103 : decode prog_7_method_8_code 103 = .ok (.invokevirtual 81, 3) := by decide +kernel
theorem d_Mo_concept_106 : decode prog_7_method_8_code 106 = .ok (.ireturn, 1) := by decide +kernel
theorem d_Mo_concept_107 : decode prog_7_method_8_code 107 = .ok (.aload_n 0, 1) := by decide +kernel
theorem d_Mo_concept_108 : decode prog_7_method_8_code 108 = .ok (.iconst 3, 1) := by decide +kernel
theorem d_Mo_concept_109 : decode prog_7_method_8_code 109 = .ok (.iload_n 3, 1) := by decide +kernel
theorem d_Mo_concept_110 : decode prog_7_method_8_code 110 = .ok (.iconst 0, 1) := by decide +kernel
theorem d_Mo_concept_111 : decode prog_7_method_8_code 111 = .ok (.invokevirtual 81, 3) := by decide +kernel
theorem d_Mo_concept_114 : decode prog_7_method_8_code 114 = .ok (.istore 4, 2) := by decide +kernel
theorem d_Mo_concept_116 : decode prog_7_method_8_code 116 = .ok (.iload 4, 2) := by decide +kernel
theorem d_Mo_concept_118 : decode prog_7_method_8_code 118 = .ok (.bipush (-3), 2) := by decide +kernel
theorem d_Mo_concept_120 : decode prog_7_method_8_code 120 = .ok (.if_icmp .eq 17, 3) := by decide +kernel
theorem d_Mo_concept_123 : decode prog_7_method_8_code 123 = .ok (.aload_n 0, 1) := by decide +kernel
theorem d_Mo_concept_124 : decode prog_7_method_8_code 124 = .ok (.bipush 6, 2) := by decide +kernel
theorem d_Mo_concept_126 : decode prog_7_method_8_code 126 = .ok (.iload_n 2, 1) := by decide +kernel
theorem d_Mo_concept_127 : decode prog_7_method_8_code 127 = .ok (.iload 4, 2) := by decide +kernel
theorem d_Mo_concept_129 : decode prog_7_method_8_code 129 = .ok (.invokevirtual 81, 3) := by decide +kernel
theorem d_Mo_concept_132 : decode prog_7_method_8_code 132 = .ok (.bipush (-3), 2) := by decide +kernel
theorem d_Mo_concept_134 : decode prog_7_method_8_code 134 = .ok (.if_icmp .ne 6, 3) := by decide +kernel
theorem d_Mo_concept_137 : decode prog_7_method_8_code 137 = .ok (.bipush (-3), 2) := by decide +kernel
theorem d_Mo_concept_139 : decode prog_7_method_8_code 139 = .ok (.ireturn, 1) := by decide +kernel
theorem d_Mo_concept_140 : decode prog_7_method_8_code 140 = .ok (.aload_n 0, 1) := by decide +kernel
theorem d_Mo_concept_141 : decode prog_7_method_8_code 141 = .ok (.bipush 7, 2) := by decide +kernel
theorem d_Mo_concept_143 : decode prog_7_method_8_code 143 = .ok (.iload_n 2, 1) := by decide +kernel
theorem d_Mo_concept_144 : decode prog_7_method_8_code 144 = .ok (.iload_n 3, 1) := by decide +kernel
theorem d_Mo_concept_145 : decode prog_7_method_8_code 145 = .ok (.invokevirtual 81, 3) := by decide +kernel
theorem d_Mo_concept_148 : decode prog_7_method_8_code 148 = .ok (.ireturn, 1) := by decide +kernel
theorem d_Mo_told_0 : decode prog_7_method_9_code 0 = .ok (.aload_n 0, 1) := by decide +kernel
theorem d_Mo_told_1 : decode prog_7_method_9_code 1 = .ok (.iload_n 1, 1) := by decide +kernel
theorem d_Mo_told_2 : decode prog_7_method_9_code 2 = .ok (.invokevirtual 84, 3) := by decide +kernel
theorem d_Mo_told_5 : decode prog_7_method_9_code 5 = .ok (.ifCond .ne 5, 3) := by decide +kernel
theorem d_Mo_told_8 : decode prog_7_method_9_code 8 = .ok (.iconst (-1), 1) := by decide +kernel
theorem d_Mo_told_9 : decode prog_7_method_9_code 9 = .ok (.ireturn, 1) := by decide +kernel
theorem d_Mo_told_10 : decode prog_7_method_9_code 10 = .ok (.iload_n 2, 1) := by decide +kernel
theorem d_Mo_told_11 : decode prog_7_method_9_code 11 = .ok (.ifCond .ne 12, 3) := by decide +kernel
theorem d_Mo_told_14 : decode prog_7_method_9_code 14 = .ok (.aload_n 0, 1) := by decide +kernel
theorem d_Mo_told_15 : decode prog_7_method_9_code 15 = .ok (.getfield 7, 3) := by decide +kernel
theorem d_Mo_told_18 : decode prog_7_method_9_code 18 = .ok (.iload_n 1, 1) := by decide +kernel
theorem d_Mo_told_19 : decode prog_7_method_9_code 19 = .ok (.iaload, 1) := by decide +kernel
theorem d_Mo_told_20 : decode prog_7_method_9_code 20 = .ok (.goto 32, 3) := by decide +kernel
theorem d_Mo_told_23 : decode prog_7_method_9_code 23 = .ok (.iload_n 2, 1) := by decide +kernel
theorem d_Mo_told_24 : decode prog_7_method_9_code 24 = .ok (.iconst 1, 1) := by decide +kernel
theorem d_Mo_told_25 : decode prog_7_method_9_code 25 = .ok (.if_icmp .ne 12, 3) := by decide +kernel
theorem d_Mo_told_28 : decode prog_7_method_9_code 28 = .ok (.aload_n 0, 1) := by decide +kernel
theorem d_Mo_told_29 : decode prog_7_method_9_code 29 = .ok (.getfield 13, 3) := by decide +kernel
theorem d_Mo_told_32 : decode prog_7_method_9_code 32 = .ok (.iload_n 1, 1) := by decide +kernel
theorem d_Mo_told_33 : decode prog_7_method_9_code 33 = .ok (.iaload, 1) := by decide +kernel
theorem d_Mo_told_34 : decode prog_7_method_9_code 34 = .ok (.goto 18, 3) := by decide +kernel
theorem d_Mo_told_37 : decode prog_7_method_9_code 37 = .ok (.iload_n 2, 1) := by decide +kernel
theorem d_Mo_told_38 : decode prog_7_method_9_code 38 = .ok (.iconst 2, 1) := by decide +kernel
theorem d_Mo_told_39 : decode prog_7_method_9_code 39 = .ok (.if_icmp .ne 12, 3) := by decide +kernel
theorem d_Mo_told_42 : decode prog_7_method_9_code 42 = .ok (.aload_n 0, 1) := by decide +kernel
theorem d_Mo_told_43 : decode prog_7_method_9_code 43 = .ok (.getfield 16, 3) := by decide +kernel
theorem d_Mo_told_46 : decode prog_7_method_9_code 46 = .ok (.iload_n 1, 1) := by decide +kernel
theorem d_Mo_told_47 : decode prog_7_method_9_code 47 = .ok (.iaload, 1) := by decide +kernel
theorem d_Mo_told_48 : decode prog_7_method_9_code 48 = .ok (.goto 4, 3) := by decide +kernel
theorem d_Mo_told_51 : decode prog_7_method_9_code 51 = .ok (.iconst (-1), 1) := by decide +kernel
theorem d_Mo_told_52 : decode prog_7_method_9_code 52 = .ok (.ireturn, 1) := by decide +kernel
theorem d_Mo_concepts_0 : decode prog_7_method_10_code 0 = .ok (.aload_n 0, 1) := by decide +kernel
theorem d_Mo_concepts_1 : decode prog_7_method_10_code 1 = .ok (.getfield 66, 3) := by decide +kernel
theorem d_Mo_concepts_4 : decode prog_7_method_10_code 4 = .ok (.ireturn, 1) := by decide +kernel
theorem d_Mo_atoms_0 : decode prog_7_method_11_code 0 = .ok (.aload_n 0, 1) := by decide +kernel
theorem d_Mo_atoms_1 : decode prog_7_method_11_code 1 = .ok (.getfield 74, 3) := by decide +kernel
theorem d_Mo_atoms_4 : decode prog_7_method_11_code 4 = .ok (.ireturn, 1) := by decide +kernel
theorem d_Mo_axiom_0 : decode prog_7_method_12_code 0 = .ok (.aload_n 0, 1) := by decide +kernel
theorem d_Mo_axiom_1 : decode prog_7_method_12_code 1 = .ok (.iload_n 1, 1) := by decide +kernel
theorem d_Mo_axiom_2 : decode prog_7_method_12_code 2 = .ok (.invokevirtual 84, 3) := by decide +kernel
theorem d_Mo_axiom_5 : decode prog_7_method_12_code 5 = .ok (.ifCond .eq 11, 3) := by decide +kernel
theorem d_Mo_axiom_8 : decode prog_7_method_12_code 8 = .ok (.aload_n 0, 1) := by decide +kernel
theorem d_Mo_axiom_9 : decode prog_7_method_12_code 9 = .ok (.iload_n 2, 1) := by decide +kernel
theorem d_Mo_axiom_10 : decode prog_7_method_12_code 10 = .ok (.invokevirtual 84, 3) := by decide +kernel
theorem d_Mo_axiom_13 : decode prog_7_method_12_code 13 = .ok (.ifCond .ne 5, 3) := by decide +kernel
theorem d_Mo_axiom_16 : decode prog_7_method_12_code 16 = .ok (.iconst (-1), 1) := by decide +kernel
theorem d_Mo_axiom_17 : decode prog_7_method_12_code 17 = .ok (.ireturn, 1) := by decide +kernel
theorem d_Mo_axiom_18 : decode prog_7_method_12_code 18 = .ok (.aload_n 0, 1) := by decide +kernel
theorem d_Mo_axiom_19 : decode prog_7_method_12_code 19 = .ok (.getfield 91, 3) := by decide +kernel
theorem d_Mo_axiom_22 : decode prog_7_method_12_code 22 = .ok (.bipush 30, 2) := by decide +kernel
theorem d_Mo_axiom_24 : decode prog_7_method_12_code 24 = .ok (.if_icmp .ne 6, 3) := by decide +kernel
theorem d_Mo_axiom_27 : decode prog_7_method_12_code 27 = .ok (.bipush (-3), 2) := by decide +kernel
theorem d_Mo_axiom_29 : decode prog_7_method_12_code 29 = .ok (.ireturn, 1) := by decide +kernel
theorem d_Mo_axiom_30 : decode prog_7_method_12_code 30 = .ok (.aload_n 0, 1) := by decide +kernel
theorem d_Mo_axiom_31 : decode prog_7_method_12_code 31 = .ok (.getfield 22, 3) := by decide +kernel
theorem d_Mo_axiom_34 : decode prog_7_method_12_code 34 = .ok (.aload_n 0, 1) := by decide +kernel
theorem d_Mo_axiom_35 : decode prog_7_method_12_code 35 = .ok (.getfield 91, 3) := by decide +kernel
theorem d_Mo_axiom_38 : decode prog_7_method_12_code 38 = .ok (.iload_n 1, 1) := by decide +kernel
theorem d_Mo_axiom_39 : decode prog_7_method_12_code 39 = .ok (.iastore, 1) := by decide +kernel
theorem d_Mo_axiom_40 : decode prog_7_method_12_code 40 = .ok (.aload_n 0, 1) := by decide +kernel
theorem d_Mo_axiom_41 : decode prog_7_method_12_code 41 = .ok (.getfield 25, 3) := by decide +kernel
theorem d_Mo_axiom_44 : decode prog_7_method_12_code 44 = .ok (.aload_n 0, 1) := by decide +kernel
theorem d_Mo_axiom_45 : decode prog_7_method_12_code 45 = .ok (.getfield 91, 3) := by decide +kernel
theorem d_Mo_axiom_48 : decode prog_7_method_12_code 48 = .ok (.iload_n 2, 1) := by decide +kernel
theorem d_Mo_axiom_49 : decode prog_7_method_12_code 49 = .ok (.iastore, 1) := by decide +kernel
theorem d_Mo_axiom_50 : decode prog_7_method_12_code 50 = .ok (.aload_n 0, 1) := by decide +kernel
theorem d_Mo_axiom_51 : decode prog_7_method_12_code 51 = .ok (.dup, 1) := by decide +kernel
theorem d_Mo_axiom_52 : decode prog_7_method_12_code 52 = .ok (.getfield 91, 3) := by decide +kernel
theorem d_Mo_axiom_55 : decode prog_7_method_12_code 55 = .ok (.iconst 1, 1) := by decide +kernel
theorem d_Mo_axiom_56 : decode prog_7_method_12_code 56 = .ok (.iadd, 1) := by decide +kernel
theorem d_Mo_axiom_57 : decode prog_7_method_12_code 57 = .ok (.putfield 91, 3) := by decide +kernel
theorem d_Mo_axiom_60 : decode prog_7_method_12_code 60 = .ok (.aload_n 0, 1) := by decide +kernel
theorem d_Mo_axiom_61 : decode prog_7_method_12_code 61 = .ok (.iconst 0, 1) := by decide +kernel
theorem d_Mo_axiom_62 : decode prog_7_method_12_code 62 = .ok (.putfield 77, 3) := by decide +kernel
theorem d_Mo_axiom_65 : decode prog_7_method_12_code 65 = .ok (.aload_n 0, 1) := by decide +kernel
theorem d_Mo_axiom_66 : decode prog_7_method_12_code 66 = .ok (.getfield 91, 3) := by decide +kernel
theorem d_Mo_axiom_69 : decode prog_7_method_12_code 69 = .ok (.iconst 1, 1) := by decide +kernel
theorem d_Mo_axiom_70 : decode prog_7_method_12_code 70 = .ok (.isub, 1) := by decide +kernel
theorem d_Mo_axiom_71 : decode prog_7_method_12_code 71 = .ok (.ireturn, 1) := by decide +kernel
theorem d_Mo_drop_0 : decode prog_7_method_13_code 0 = .ok (.aload_n 0, 1) := by decide +kernel
theorem d_Mo_drop_1 : decode prog_7_method_13_code 1 = .ok (.getfield 91, 3) := by decide +kernel
theorem d_Mo_drop_4 : decode prog_7_method_13_code 4 = .ok (.ifCond .ne 6, 3) := by decide +kernel
theorem d_Mo_drop_7 : decode prog_7_method_13_code 7 = .ok (.bipush (-2), 2) := by decide +kernel
theorem d_Mo_drop_9 : decode prog_7_method_13_code 9 = .ok (.ireturn, 1) := by decide +kernel
theorem d_Mo_drop_10 : decode prog_7_method_13_code 10 = .ok (.aload_n 0, 1) := by decide +kernel
theorem d_Mo_drop_11 : decode prog_7_method_13_code 11 = .ok (.dup, 1) := by decide +kernel
theorem d_Mo_drop_12 : decode prog_7_method_13_code 12 = .ok (.getfield 91, 3) := by decide +kernel
theorem d_Mo_drop_15 : decode prog_7_method_13_code 15 = .ok (.iconst 1, 1) := by decide +kernel
theorem d_Mo_drop_16 : decode prog_7_method_13_code 16 = .ok (.isub, 1) := by decide +kernel
theorem d_Mo_drop_17 : decode prog_7_method_13_code 17 = .ok (.putfield 91, 3) := by decide +kernel
theorem d_Mo_drop_20 : decode prog_7_method_13_code 20 = .ok (.aload_n 0, 1) := by decide +kernel
theorem d_Mo_drop_21 : decode prog_7_method_13_code 21 = .ok (.iconst 0, 1) := by decide +kernel
theorem d_Mo_drop_22 : decode prog_7_method_13_code 22 = .ok (.putfield 77, 3) := by decide +kernel
theorem d_Mo_drop_25 : decode prog_7_method_13_code 25 = .ok (.aload_n 0, 1) := by decide +kernel
theorem d_Mo_drop_26 : decode prog_7_method_13_code 26 = .ok (.getfield 91, 3) := by decide +kernel
theorem d_Mo_drop_29 : decode prog_7_method_13_code 29 = .ok (.ireturn, 1) := by decide +kernel
theorem d_Mo_role_0 : decode prog_7_method_14_code 0 = .ok (.iload_n 1, 1) := by decide +kernel
theorem d_Mo_role_1 : decode prog_7_method_14_code 1 = .ok (.invokestatic 88, 3) := by decide +kernel
theorem d_Mo_role_4 : decode prog_7_method_14_code 4 = .ok (.ifCond .eq 10, 3) := by decide +kernel
theorem d_Mo_role_7 : decode prog_7_method_14_code 7 = .ok (.iload_n 2, 1) := by decide +kernel
theorem d_Mo_role_8 : decode prog_7_method_14_code 8 = .ok (.invokestatic 88, 3) := by decide +kernel
theorem d_Mo_role_11 : decode prog_7_method_14_code 11 = .ok (.ifCond .ne 5, 3) := by decide +kernel
theorem d_Mo_role_14 : decode prog_7_method_14_code 14 = .ok (.iconst (-1), 1) := by decide +kernel
theorem d_Mo_role_15 : decode prog_7_method_14_code 15 = .ok (.ireturn, 1) := by decide +kernel
theorem d_Mo_role_16 : decode prog_7_method_14_code 16 = .ok (.aload_n 0, 1) := by decide +kernel
theorem d_Mo_role_17 : decode prog_7_method_14_code 17 = .ok (.getfield 28, 3) := by decide +kernel
theorem d_Mo_role_20 : decode prog_7_method_14_code 20 = .ok (.iconst 4, 1) := by decide +kernel
theorem d_Mo_role_21 : decode prog_7_method_14_code 21 = .ok (.iload_n 1, 1) := by decide +kernel
theorem d_Mo_role_22 : decode prog_7_method_14_code 22 = .ok (.imul, 1) := by decide +kernel
theorem d_Mo_role_23 : decode prog_7_method_14_code 23 = .ok (.iload_n 2, 1) := by decide +kernel
theorem d_Mo_role_24 : decode prog_7_method_14_code 24 = .ok (.iadd, 1) := by decide +kernel
theorem d_Mo_role_25 : decode prog_7_method_14_code 25 = .ok (.baload, 1) := by decide +kernel
theorem d_Mo_role_26 : decode prog_7_method_14_code 26 = .ok (.ifCond .eq 5, 3) := by decide +kernel
theorem d_Mo_role_29 : decode prog_7_method_14_code 29 = .ok (.iconst 0, 1) := by decide +kernel
theorem d_Mo_role_30 : decode prog_7_method_14_code 30 = .ok (.ireturn, 1) := by decide +kernel
theorem d_Mo_role_31 : decode prog_7_method_14_code 31 = .ok (.aload_n 0, 1) := by decide +kernel
theorem d_Mo_role_32 : decode prog_7_method_14_code 32 = .ok (.getfield 28, 3) := by decide +kernel
theorem d_Mo_role_35 : decode prog_7_method_14_code 35 = .ok (.iconst 4, 1) := by decide +kernel
theorem d_Mo_role_36 : decode prog_7_method_14_code 36 = .ok (.iload_n 1, 1) := by decide +kernel
theorem d_Mo_role_37 : decode prog_7_method_14_code 37 = .ok (.imul, 1) := by decide +kernel
theorem d_Mo_role_38 : decode prog_7_method_14_code 38 = .ok (.iload_n 2, 1) := by decide +kernel
theorem d_Mo_role_39 : decode prog_7_method_14_code 39 = .ok (.iadd, 1) := by decide +kernel
theorem d_Mo_role_40 : decode prog_7_method_14_code 40 = .ok (.iconst 1, 1) := by decide +kernel
theorem d_Mo_role_41 : decode prog_7_method_14_code 41 = .ok (.bastore, 1) := by decide +kernel
theorem d_Mo_role_42 : decode prog_7_method_14_code 42 = .ok (.aload_n 0, 1) := by decide +kernel
theorem d_Mo_role_43 : decode prog_7_method_14_code 43 = .ok (.iconst 0, 1) := by decide +kernel
theorem d_Mo_role_44 : decode prog_7_method_14_code 44 = .ok (.putfield 77, 3) := by decide +kernel
theorem d_Mo_role_47 : decode prog_7_method_14_code 47 = .ok (.iconst 1, 1) := by decide +kernel
theorem d_Mo_role_48 : decode prog_7_method_14_code 48 = .ok (.ireturn, 1) := by decide +kernel
noncomputable def bk_Tn_has_0 : List Int32 → List Int64 → tq_S → Option tq_C
  | [x1, x2, x3], [], σ => tq_ob (tq_fI st_Tn_isBelow (0, [x1, 5], [], σ)) (fun r2 σ3 => if r2 = 0 then some (28, [x1, x2, x3], [], σ3) else tq_ob (tq_fI st_Tn_isBelow (0, [x2, 4], [], σ3)) (fun r6 σ7 => if r6 = 0 then some (28, [x1, x2, x3], [], σ7) else tq_ob (tq_fI st_Tn_isBelow (0, [x3, 5], [], σ7)) (fun r10 σ11 => if r10 = 0 then some (28, [x1, x2, x3], [], σ11) else tq_ob (tq_fI st_Th_sayHas (0, [x1, x2, x3], [], σ11)) (fun r15 σ16 => some (tq_rt, [r15], [], σ16)))))
  | _, _, _ => none
noncomputable def bk_Tn_has_28 : List Int32 → List Int64 → tq_S → Option tq_C
  | [x1, x2, x3], [], σ => some (tq_rt, [(-1)], [], σ)
  | _, _, _ => none
noncomputable def st_Tn_has (c : tq_C) : Option tq_C := if c.1 = 0 then bk_Tn_has_0 c.2.1 c.2.2.1 c.2.2.2 else if c.1 = 28 then bk_Tn_has_28 c.2.1 c.2.2.1 c.2.2.2 else none
set_option maxHeartbeats 40000000 in
set_option maxRecDepth 100000 in
theorem c_Tn_has (l : Launch) (dC : Nat → ClassId) (dI : Nat → Nat → Nat) (cI cL cZ : ClassId) (ad : Nat → Nat) (tt : Nat) (sz : Nat) (σ : tq_S) (a1 : Int32) (a2 : Int32) (a3 : Int32) (r : Int32) (σ' : tq_S) (hf : tq_fI st_Tn_has (0, [a1, a2, a3], [], σ) = some (r, σ')) : Met l y_Tn_has w_Tn_has ({ frames := 2, cells := 0, slots := 0, locals := 44 } : Room) (va_Pc [.ref (ad 0), .int a1, .int a2, .int a3] (tq_B dC dI cI cL cZ tt (wo cI cL cZ ad σ) sz)) (va_Qi (fun (r' : Int32) (u : tq_S) => r' = r ∧ u = σ') (tq_E dC dI cI cL cZ (wo cI cL cZ ad) (va_A (wo cI cL cZ ad σ) sz)) (va_A (wo cI cL cZ ad σ) sz)) 0 0 (va_A (wo cI cL cZ ad σ) sz) := by
  obtain ⟨n0, h0⟩ := tq_fI_to hf
  refine Met.ofW (cc := prog_1_method_16_code) (maxL := 5) (ret := (some .int)) (by decide) rfl ?_
  intro p e s m args below meth c s₁ B hml hv
  obtain ⟨rfl, hsz, hP, hK, hD0, hZ, hN⟩ := hv
  have hx := B.exec
  have hb := B.bytes
  have hr := B.returns
  have hts : ∀ w ∈ tq_T, w.before _ s = true := fun w h => atoms_spec (ws := w_Tn_has) B.pre w (List.mem_cons_of_mem _ h)
  have hown : s.vm.findClass "TableauNodes" = some m.cls := findClass_of_methodNamed B.named
  have hlocks := B.notSynchronized
  subst hsz
  have hD := hD0.self (sz := s.heap.size)
  have hS : va_S (va_A (wo cI cL cZ ad σ) s.heap.size) s.heap s.heap [] := va_S.rf
  have hA : ∀ q : Nat, s.heap.size ≤ q → va_A (wo cI cL cZ ad σ) s.heap.size q := fun q h => Or.inr h
  generalize va_A (wo cI cL cZ ad σ) s.heap.size = A at hD hS hA hZ ⊢
  have hl := lv_entry ([.ref (ad 0), .int a1, .int a2, .int a3]) (n := 5) (Nat.le_of_ble_eq_true rfl)
  rw [lg_entry_eq]
  generalize (lg_sl ([.ref (ad 0), .int a1, .int a2, .int a3]) ++ List.replicate (5 - (lg_sl ([.ref (ad 0), .int a1, .int a2, .int a3])).length) Slot.unset).toArray = ls at hl ⊢
  have hl : lv_has ls 5 [(0, .ref (ad 0)), (1, .int a1), (2, .int a2), (3, .int a3)] := hl
  have key : ∀ n : Nat, (∀ {x1 x2 x3 : Int32} {σ : tq_S} {H : Heap} {locs : List Loc} {ls : Array Slot}, va_P (dC, dI) tq_cl (wo cI cL cZ ad σ) H → va_D A (wo cI cL cZ ad σ) → va_S A s.heap H locs → lv_has ls 5 [(0, .ref (ad 0)), (1, .int x1), (2, .int x2), (3, .int x3)] → tq_go st_Tn_has n (0, [x1, x2, x3], [], σ) = some (tq_rt, [r], [], σ') → W p l e (headSpec w_Tn_has ({ frames := 2, cells := 0, slots := 0, locals := 44 } : Room)).room s m ([.ref (ad 0), .int a1, .int a2, .int a3] : List Value).toArray below meth c H locs 0 0 (MQ below (va_Qi (fun (r' : Int32) (u : tq_S) => r' = r ∧ u = σ') (tq_E dC dI cI cL cZ (wo cI cL cZ ad) A) A) ([.ref (ad 0), .int a1, .int a2, .int a3] : List Value).toArray s 0 0 A) (F0 m 0 ls [])) ∧ (∀ {x1 x2 x3 : Int32} {σ : tq_S} {H : Heap} {locs : List Loc} {ls : Array Slot}, va_P (dC, dI) tq_cl (wo cI cL cZ ad σ) H → va_D A (wo cI cL cZ ad σ) → va_S A s.heap H locs → lv_has ls 5 [(0, .ref (ad 0)), (1, .int x1), (2, .int x2), (3, .int x3)] → tq_go st_Tn_has n (28, [x1, x2, x3], [], σ) = some (tq_rt, [r], [], σ') → W p l e (headSpec w_Tn_has ({ frames := 2, cells := 0, slots := 0, locals := 44 } : Room)).room s m ([.ref (ad 0), .int a1, .int a2, .int a3] : List Value).toArray below meth c H locs 0 0 (MQ below (va_Qi (fun (r' : Int32) (u : tq_S) => r' = r ∧ u = σ') (tq_E dC dI cI cL cZ (wo cI cL cZ ad) A) A) ([.ref (ad 0), .int a1, .int a2, .int a3] : List Value).toArray s 0 0 A) (F0 m 28 ls [])) := by
    intro n
    induction n with
    | zero => exact ⟨(fun _ _ _ _ h => by cases h), (fun _ _ _ _ h => by cases h)⟩
    | succ n ih =>
      refine ⟨?_, ?_⟩
      · intro x1 x2 x3 σ H locs ls hP hD hS hl h9
        obtain ⟨q9, hg, hn⟩ := tq_go_s h9 (show ¬ (0 : Nat) = tq_rt by decide)
        replace hg : bk_Tn_has_0 [x1, x2, x3] [] σ = some q9 := hg
        unfold bk_Tn_has_0 at hg
        refine lv_iload_n hx hb d_Tn_has_0 rfl (lv_at hl 1 rfl) ?_
        refine lv_iconst (v := 5) hx hb d_Tn_has_1 (by decide) ?_
        obtain ⟨r2, σ3, f1, hg⟩ := tq_ob_s hg
        refine tq_aI (va_runS (As := [.int x1, .int 5]) (rest := []) ⟨hx, hb, hml, hown, hts⟩ (c_Tn_isBelow l dC dI cI cL cZ ad tt H.size σ x1 5  r2 σ3 f1) (va_cwS 2 hts (tq_gS tw_237 tw_238 tw_1 tw_239) rfl rfl rfl (by decide +kernel) ⟨Nat.le_of_ble_eq_true rfl, Nat.le_of_ble_eq_true rfl⟩) ⟨tq_bl, (tq_pr hP hK hD hS hA hZ hN)⟩ rfl rfl hl.1 rfl (lv_room (Nat.le_of_ble_eq_true rfl)) d_Tn_has_2 ⟨Nat.zero_le _, Nat.zero_le _⟩) hD hS hA (fun H locs hP hD hS => ?_)
        refine lv_if_eq (tgt := 28) hx hb d_Tn_has_5 (by decide) (fun c4 => ?_) (fun c4 => ?_)
        · replace hg := tq_if_t c4 hg
          exact ih.2 hP hD hS (lv_sub hl [0, 1, 2, 3] rfl) (tq_gi hg hn)
        · replace hg := tq_if_f c4 hg
          refine lv_iload_n hx hb d_Tn_has_8 rfl (lv_at hl 2 rfl) ?_
          refine lv_iconst (v := 4) hx hb d_Tn_has_9 (by decide) ?_
          obtain ⟨r6, σ7, f5, hg⟩ := tq_ob_s hg
          refine tq_aI (va_runS (As := [.int x2, .int 4]) (rest := []) ⟨hx, hb, hml, hown, hts⟩ (c_Tn_isBelow l dC dI cI cL cZ ad tt H.size σ3 x2 4  r6 σ7 f5) (va_cwS 2 hts (tq_gS tw_237 tw_238 tw_1 tw_239) rfl rfl rfl (by decide +kernel) ⟨Nat.le_of_ble_eq_true rfl, Nat.le_of_ble_eq_true rfl⟩) ⟨tq_bl, (tq_pr hP hK hD hS hA hZ hN)⟩ rfl rfl hl.1 rfl (lv_room (Nat.le_of_ble_eq_true rfl)) d_Tn_has_10 ⟨Nat.zero_le _, Nat.zero_le _⟩) hD hS hA (fun H locs hP hD hS => ?_)
          refine lv_if_eq (tgt := 28) hx hb d_Tn_has_13 (by decide) (fun c8 => ?_) (fun c8 => ?_)
          · replace hg := tq_if_t c8 hg
            exact ih.2 hP hD hS (lv_sub hl [0, 1, 2, 3] rfl) (tq_gi hg hn)
          · replace hg := tq_if_f c8 hg
            refine lv_iload_n hx hb d_Tn_has_16 rfl (lv_at hl 3 rfl) ?_
            refine lv_iconst (v := 5) hx hb d_Tn_has_17 (by decide) ?_
            obtain ⟨r10, σ11, f9, hg⟩ := tq_ob_s hg
            refine tq_aI (va_runS (As := [.int x3, .int 5]) (rest := []) ⟨hx, hb, hml, hown, hts⟩ (c_Tn_isBelow l dC dI cI cL cZ ad tt H.size σ7 x3 5  r10 σ11 f9) (va_cwS 2 hts (tq_gS tw_237 tw_238 tw_1 tw_239) rfl rfl rfl (by decide +kernel) ⟨Nat.le_of_ble_eq_true rfl, Nat.le_of_ble_eq_true rfl⟩) ⟨tq_bl, (tq_pr hP hK hD hS hA hZ hN)⟩ rfl rfl hl.1 rfl (lv_room (Nat.le_of_ble_eq_true rfl)) d_Tn_has_18 ⟨Nat.zero_le _, Nat.zero_le _⟩) hD hS hA (fun H locs hP hD hS => ?_)
            refine lv_if_eq (tgt := 28) hx hb d_Tn_has_21 (by decide) (fun c12 => ?_) (fun c12 => ?_)
            · replace hg := tq_if_t c12 hg
              exact ih.2 hP hD hS (lv_sub hl [0, 1, 2, 3] rfl) (tq_gi hg hn)
            · replace hg := tq_if_f c12 hg
              refine lv_iconst (v := 1) hx hb d_Tn_has_24 (by decide) ?_
              refine lv_goto (tgt := 29) hx hb d_Tn_has_25 (by decide) ?_
              refine lv_istore (lv' := [(4, .int 1), (0, .ref (ad 0)), (1, .int x1), (2, .int x2), (3, .int x3)]) hx hb d_Tn_has_29 hl (by decide) rfl (fun ls hl => ?_)
              refine lv_iload hx hb d_Tn_has_31 (lv_at hl 0 rfl) ?_
              refine lv_if_eq (tgt := 49) hx hb d_Tn_has_33 (by decide) (fun c => False.elim (by revert c; decide)) (fun _ => ?_)
              refine lv_aload_n hx hb d_Tn_has_36 rfl (lv_at hl 1 rfl) ?_
              refine va_get (D := (dC, dI)) (ci := 0) (v := .ref (ad 4)) (C := "TableauNodes") (T := F_Tn) (N := 4) hx hb hts in_Tn hown hK hP 0 rfl rfl 3 (by decide) (hts _ tw_223) (fun _ h9 => h9) rfl d_Tn_has_37 ?_
              refine lv_iload_n hx hb d_Tn_has_40 rfl (lv_at hl 2 rfl) ?_
              refine lv_iload_n hx hb d_Tn_has_41 rfl (lv_at hl 3 rfl) ?_
              refine lv_iload_n hx hb d_Tn_has_42 rfl (lv_at hl 4 rfl) ?_
              obtain ⟨r15, σ16, f14, hg⟩ := tq_ob_s hg
              refine tq_aI (va_runV (As := [.int x1, .int x2, .int x3]) (rest := []) ⟨hx, hb, hml, hown, hts⟩ (c_Th_sayHas l dC dI cI cL cZ ad tt H.size σ11 x1 x2 x3  r15 σ16 f14) (cwV 3 hts (tq_gV tw_454 tw_455 tw_456 tw_5 tw_457) rfl rfl rfl (by decide +kernel) ⟨Nat.le_of_ble_eq_true rfl, Nat.le_of_ble_eq_true rfl⟩) ⟨tq_bl, va_recv hK hP (ci := 4) (q0 := 4) rfl rfl, (tq_pr hP hK hD hS hA hZ hN)⟩ rfl rfl hl.1 rfl (lv_room (Nat.le_of_ble_eq_true rfl)) d_Tn_has_43 ⟨Nat.zero_le _, Nat.zero_le _⟩) hD hS hA (fun H locs hP hD hS => ?_)
              refine lv_goto (tgt := 50) hx hb d_Tn_has_46 (by decide) ?_
              exact W.iret (v := r15) hx hb hr (fun t ht hW => ⟨⟨r15, σ16, rfl, tq_grI hg hn, by rw [ht]; exact hP, va_K.moved hW.alike hK, hD⟩, hS.F ht⟩) hS.2.2 d_Tn_has_50
      · intro x1 x2 x3 σ H locs ls hP hD hS hl h9
        obtain ⟨q9, hg, hn⟩ := tq_go_s h9 (show ¬ (28 : Nat) = tq_rt by decide)
        replace hg : bk_Tn_has_28 [x1, x2, x3] [] σ = some q9 := hg
        unfold bk_Tn_has_28 at hg
        refine lv_iconst (v := 0) hx hb d_Tn_has_28 (by decide) ?_
        refine lv_istore (lv' := [(4, .int 0), (0, .ref (ad 0)), (1, .int x1), (2, .int x2), (3, .int x3)]) hx hb d_Tn_has_29 hl (by decide) rfl (fun ls hl => ?_)
        refine lv_iload hx hb d_Tn_has_31 (lv_at hl 0 rfl) ?_
        refine lv_if_eq (tgt := 49) hx hb d_Tn_has_33 (by decide) (fun _ => ?_) (fun c => False.elim (by revert c; decide))
        refine lv_iconst (v := (-1)) hx hb d_Tn_has_49 (by decide) ?_
        exact W.iret (v := (-1)) hx hb hr (fun t ht hW => ⟨⟨(-1), σ, rfl, tq_grI hg hn, by rw [ht]; exact hP, va_K.moved hW.alike hK, hD⟩, hS.F ht⟩) hS.2.2 d_Tn_has_50
  exact (key n0).1 hP hD hS hl h0
noncomputable def bk_Tn_forget_0 : List Int32 → List Int64 → tq_S → Option tq_C
  | [], [], σ => tq_ob (tq_fI st_Th_forgetAll (0, [], [], σ)) (fun r2 σ3 => some (tq_rt, [r2], [], σ3))
  | _, _, _ => none
noncomputable def st_Tn_forget (c : tq_C) : Option tq_C := if c.1 = 0 then bk_Tn_forget_0 c.2.1 c.2.2.1 c.2.2.2 else none
set_option maxHeartbeats 40000000 in
set_option maxRecDepth 100000 in
theorem c_Tn_forget (l : Launch) (dC : Nat → ClassId) (dI : Nat → Nat → Nat) (cI cL cZ : ClassId) (ad : Nat → Nat) (tt : Nat) (sz : Nat) (σ : tq_S) (r : Int32) (σ' : tq_S) (hf : tq_fI st_Tn_forget (0, [], [], σ) = some (r, σ')) : Met l y_Tn_forget w_Tn_forget ({ frames := 2, cells := 0, slots := 0, locals := 42 } : Room) (va_Pc [.ref (ad 0)] (tq_B dC dI cI cL cZ tt (wo cI cL cZ ad σ) sz)) (va_Qi (fun (r' : Int32) (u : tq_S) => r' = r ∧ u = σ') (tq_E dC dI cI cL cZ (wo cI cL cZ ad) (va_A (wo cI cL cZ ad σ) sz)) (va_A (wo cI cL cZ ad σ) sz)) 0 0 (va_A (wo cI cL cZ ad σ) sz) := by
  obtain ⟨n0, h0⟩ := tq_fI_to hf
  refine Met.ofW (cc := prog_1_method_17_code) (maxL := 1) (ret := (some .int)) (by decide) rfl ?_
  intro p e s m args below meth c s₁ B hml hv
  obtain ⟨rfl, hsz, hP, hK, hD0, hZ, hN⟩ := hv
  have hx := B.exec
  have hb := B.bytes
  have hr := B.returns
  have hts : ∀ w ∈ tq_T, w.before _ s = true := fun w h => atoms_spec (ws := w_Tn_forget) B.pre w (List.mem_cons_of_mem _ h)
  have hown : s.vm.findClass "TableauNodes" = some m.cls := findClass_of_methodNamed B.named
  have hlocks := B.notSynchronized
  subst hsz
  have hD := hD0.self (sz := s.heap.size)
  have hS : va_S (va_A (wo cI cL cZ ad σ) s.heap.size) s.heap s.heap [] := va_S.rf
  have hA : ∀ q : Nat, s.heap.size ≤ q → va_A (wo cI cL cZ ad σ) s.heap.size q := fun q h => Or.inr h
  generalize va_A (wo cI cL cZ ad σ) s.heap.size = A at hD hS hA hZ ⊢
  have hl := lv_entry ([.ref (ad 0)]) (n := 1) (Nat.le_of_ble_eq_true rfl)
  rw [lg_entry_eq]
  generalize (lg_sl ([.ref (ad 0)]) ++ List.replicate (1 - (lg_sl ([.ref (ad 0)])).length) Slot.unset).toArray = ls at hl ⊢
  have hl : lv_has ls 1 [(0, .ref (ad 0))] := hl
  have key : ∀ n : Nat, (∀ {σ : tq_S} {H : Heap} {locs : List Loc} {ls : Array Slot}, va_P (dC, dI) tq_cl (wo cI cL cZ ad σ) H → va_D A (wo cI cL cZ ad σ) → va_S A s.heap H locs → lv_has ls 1 [(0, .ref (ad 0))] → tq_go st_Tn_forget n (0, [], [], σ) = some (tq_rt, [r], [], σ') → W p l e (headSpec w_Tn_forget ({ frames := 2, cells := 0, slots := 0, locals := 42 } : Room)).room s m ([.ref (ad 0)] : List Value).toArray below meth c H locs 0 0 (MQ below (va_Qi (fun (r' : Int32) (u : tq_S) => r' = r ∧ u = σ') (tq_E dC dI cI cL cZ (wo cI cL cZ ad) A) A) ([.ref (ad 0)] : List Value).toArray s 0 0 A) (F0 m 0 ls [])) := by
    intro n
    induction n with
    | zero => exact fun _ _ _ _ h => by cases h
    | succ n ih =>
      intro  σ H locs ls hP hD hS hl h9
      obtain ⟨q9, hg, hn⟩ := tq_go_s h9 (show ¬ (0 : Nat) = tq_rt by decide)
      replace hg : bk_Tn_forget_0 [] [] σ = some q9 := hg
      unfold bk_Tn_forget_0 at hg
      refine lv_aload_n hx hb d_Tn_forget_0 rfl (lv_at hl 0 rfl) ?_
      refine va_get (D := (dC, dI)) (ci := 0) (v := .ref (ad 4)) (C := "TableauNodes") (T := F_Tn) (N := 4) hx hb hts in_Tn hown hK hP 0 rfl rfl 3 (by decide) (hts _ tw_223) (fun _ h9 => h9) rfl d_Tn_forget_1 ?_
      obtain ⟨r2, σ3, f1, hg⟩ := tq_ob_s hg
      refine tq_aI (va_runV (As := []) (rest := []) ⟨hx, hb, hml, hown, hts⟩ (c_Th_forgetAll l dC dI cI cL cZ ad tt H.size σ   r2 σ3 f1) (cwV 0 hts (tq_gV tw_462 tw_463 tw_464 tw_5 tw_465) rfl rfl rfl (by decide +kernel) ⟨Nat.le_of_ble_eq_true rfl, Nat.le_of_ble_eq_true rfl⟩) ⟨tq_bl, va_recv hK hP (ci := 4) (q0 := 4) rfl rfl, (tq_pr hP hK hD hS hA hZ hN)⟩ rfl rfl hl.1 rfl (lv_room (Nat.le_of_ble_eq_true rfl)) d_Tn_forget_4 ⟨Nat.zero_le _, Nat.zero_le _⟩) hD hS hA (fun H locs hP hD hS => ?_)
      exact W.iret (v := r2) hx hb hr (fun t ht hW => ⟨⟨r2, σ3, rfl, tq_grI hg hn, by rw [ht]; exact hP, va_K.moved hW.alike hK, hD⟩, hS.F ht⟩) hS.2.2 d_Tn_forget_7
  exact (key n0) hP hD hS hl h0
noncomputable def bk_Tn_run_0 : List Int32 → List Int64 → tq_S → Option tq_C
  | [], [], σ => tq_ob (tq_fV st_Go_refresh (0, [], [], σ)) (fun _ σ3 => tq_ob (tq_fV st_Th_settle (0, [], [], σ3)) (fun _ σ6 => tq_ob (tq_fI st_Th_goTogether (0, [], [], σ6)) (fun r8 σ9 => if r8 = 0 then some (tq_rt, [0], [], σ9) else some (tq_rt, [1], [], σ9))))
  | _, _, _ => none
noncomputable def st_Tn_run (c : tq_C) : Option tq_C := if c.1 = 0 then bk_Tn_run_0 c.2.1 c.2.2.1 c.2.2.2 else none
set_option maxHeartbeats 40000000 in
set_option maxRecDepth 100000 in
theorem c_Tn_run (l : Launch) (dC : Nat → ClassId) (dI : Nat → Nat → Nat) (cI cL cZ : ClassId) (ad : Nat → Nat) (tt : Nat) (sz : Nat) (σ : tq_S) (r : Int32) (σ' : tq_S) (hf : tq_fI st_Tn_run (0, [], [], σ) = some (r, σ')) : Met l y_Tn_run w_Tn_run ({ frames := 12, cells := 0, slots := 0, locals := 321 } : Room) (va_Pc [.ref (ad 0)] (tq_B dC dI cI cL cZ tt (wo cI cL cZ ad σ) sz)) (va_Qi (fun (r' : Int32) (u : tq_S) => r' = r ∧ u = σ') (tq_E dC dI cI cL cZ (wo cI cL cZ ad) (va_A (wo cI cL cZ ad σ) sz)) (va_A (wo cI cL cZ ad σ) sz)) 0 0 (va_A (wo cI cL cZ ad σ) sz) := by
  obtain ⟨n0, h0⟩ := tq_fI_to hf
  refine Met.ofW (cc := prog_1_method_18_code) (maxL := 1) (ret := (some .int)) (by decide) rfl ?_
  intro p e s m args below meth c s₁ B hml hv
  obtain ⟨rfl, hsz, hP, hK, hD0, hZ, hN⟩ := hv
  have hx := B.exec
  have hb := B.bytes
  have hr := B.returns
  have hts : ∀ w ∈ tq_T, w.before _ s = true := fun w h => atoms_spec (ws := w_Tn_run) B.pre w (List.mem_cons_of_mem _ h)
  have hown : s.vm.findClass "TableauNodes" = some m.cls := findClass_of_methodNamed B.named
  have hlocks := B.notSynchronized
  subst hsz
  have hD := hD0.self (sz := s.heap.size)
  have hS : va_S (va_A (wo cI cL cZ ad σ) s.heap.size) s.heap s.heap [] := va_S.rf
  have hA : ∀ q : Nat, s.heap.size ≤ q → va_A (wo cI cL cZ ad σ) s.heap.size q := fun q h => Or.inr h
  generalize va_A (wo cI cL cZ ad σ) s.heap.size = A at hD hS hA hZ ⊢
  have hl := lv_entry ([.ref (ad 0)]) (n := 1) (Nat.le_of_ble_eq_true rfl)
  rw [lg_entry_eq]
  generalize (lg_sl ([.ref (ad 0)]) ++ List.replicate (1 - (lg_sl ([.ref (ad 0)])).length) Slot.unset).toArray = ls at hl ⊢
  have hl : lv_has ls 1 [(0, .ref (ad 0))] := hl
  have key : ∀ n : Nat, (∀ {σ : tq_S} {H : Heap} {locs : List Loc} {ls : Array Slot}, va_P (dC, dI) tq_cl (wo cI cL cZ ad σ) H → va_D A (wo cI cL cZ ad σ) → va_S A s.heap H locs → lv_has ls 1 [(0, .ref (ad 0))] → tq_go st_Tn_run n (0, [], [], σ) = some (tq_rt, [r], [], σ') → W p l e (headSpec w_Tn_run ({ frames := 12, cells := 0, slots := 0, locals := 321 } : Room)).room s m ([.ref (ad 0)] : List Value).toArray below meth c H locs 0 0 (MQ below (va_Qi (fun (r' : Int32) (u : tq_S) => r' = r ∧ u = σ') (tq_E dC dI cI cL cZ (wo cI cL cZ ad) A) A) ([.ref (ad 0)] : List Value).toArray s 0 0 A) (F0 m 0 ls [])) := by
    intro n
    induction n with
    | zero => exact fun _ _ _ _ h => by cases h
    | succ n ih =>
      intro  σ H locs ls hP hD hS hl h9
      obtain ⟨q9, hg, hn⟩ := tq_go_s h9 (show ¬ (0 : Nat) = tq_rt by decide)
      replace hg : bk_Tn_run_0 [] [] σ = some q9 := hg
      unfold bk_Tn_run_0 at hg
      refine lv_aload_n hx hb d_Tn_run_0 rfl (lv_at hl 0 rfl) ?_
      refine va_get (D := (dC, dI)) (ci := 0) (v := .ref (ad 3)) (C := "TableauNodes") (T := F_Tn) (N := 4) hx hb hts in_Tn hown hK hP 0 rfl rfl 2 (by decide) (hts _ tw_222) (fun _ h9 => h9) rfl d_Tn_run_1 ?_
      obtain ⟨⟨⟩, σ3, f1, hg⟩ := tq_ob_s hg
      refine tq_aV (va_runV (As := []) (rest := []) ⟨hx, hb, hml, hown, hts⟩ (c_Go_refresh l dC dI cI cL cZ ad tt H.size σ    σ3 f1) (cwV 0 hts (tq_gV tw_311 tw_312 tw_313 tw_4 tw_314) rfl rfl rfl (by decide +kernel) ⟨Nat.le_of_ble_eq_true rfl, Nat.le_of_ble_eq_true rfl⟩) ⟨tq_bl, va_recv hK hP (ci := 3) (q0 := 3) rfl rfl, (tq_pr hP hK hD hS hA hZ hN)⟩ rfl rfl hl.1 rfl (lv_room (Nat.le_of_ble_eq_true rfl)) d_Tn_run_4 ⟨Nat.zero_le _, Nat.zero_le _⟩) hD hS hA (fun H locs hP hD hS => ?_)
      refine lv_aload_n hx hb d_Tn_run_7 rfl (lv_at hl 0 rfl) ?_
      refine va_get (D := (dC, dI)) (ci := 0) (v := .ref (ad 4)) (C := "TableauNodes") (T := F_Tn) (N := 4) hx hb hts in_Tn hown hK hP 0 rfl rfl 3 (by decide) (hts _ tw_223) (fun _ h9 => h9) rfl d_Tn_run_8 ?_
      obtain ⟨⟨⟩, σ6, f4, hg⟩ := tq_ob_s hg
      refine tq_aV (va_runV (As := []) (rest := []) ⟨hx, hb, hml, hown, hts⟩ (c_Th_settle l dC dI cI cL cZ ad tt H.size σ3    σ6 f4) (cwV 0 hts (tq_gV tw_470 tw_471 tw_472 tw_5 tw_473) rfl rfl rfl (by decide +kernel) ⟨Nat.le_of_ble_eq_true rfl, Nat.le_of_ble_eq_true rfl⟩) ⟨tq_bl, va_recv hK hP (ci := 4) (q0 := 4) rfl rfl, (tq_pr hP hK hD hS hA hZ hN)⟩ rfl rfl hl.1 rfl (lv_room (Nat.le_of_ble_eq_true rfl)) d_Tn_run_11 ⟨Nat.zero_le _, Nat.zero_le _⟩) hD hS hA (fun H locs hP hD hS => ?_)
      refine lv_aload_n hx hb d_Tn_run_14 rfl (lv_at hl 0 rfl) ?_
      refine va_get (D := (dC, dI)) (ci := 0) (v := .ref (ad 4)) (C := "TableauNodes") (T := F_Tn) (N := 4) hx hb hts in_Tn hown hK hP 0 rfl rfl 3 (by decide) (hts _ tw_223) (fun _ h9 => h9) rfl d_Tn_run_15 ?_
      obtain ⟨r8, σ9, f7, hg⟩ := tq_ob_s hg
      refine tq_aI (va_runV (As := []) (rest := []) ⟨hx, hb, hml, hown, hts⟩ (c_Th_goTogether l dC dI cI cL cZ ad tt H.size σ6   r8 σ9 f7) (cwV 0 hts (tq_gV tw_568 tw_569 tw_570 tw_5 tw_571) rfl rfl rfl (by decide +kernel) ⟨Nat.le_of_ble_eq_true rfl, Nat.le_of_ble_eq_true rfl⟩) ⟨tq_bl, va_recv hK hP (ci := 4) (q0 := 4) rfl rfl, (tq_pr hP hK hD hS hA hZ hN)⟩ rfl rfl hl.1 rfl (lv_room (Nat.le_of_ble_eq_true rfl)) d_Tn_run_18 ⟨Nat.zero_le _, Nat.zero_le _⟩) hD hS hA (fun H locs hP hD hS => ?_)
      refine lv_if_eq (tgt := 28) hx hb d_Tn_run_21 (by decide) (fun c10 => ?_) (fun c10 => ?_)
      · replace hg := tq_if_t c10 hg
        refine lv_iconst (v := 0) hx hb d_Tn_run_28 (by decide) ?_
        exact W.iret (v := 0) hx hb hr (fun t ht hW => ⟨⟨0, σ9, rfl, tq_grI hg hn, by rw [ht]; exact hP, va_K.moved hW.alike hK, hD⟩, hS.F ht⟩) hS.2.2 d_Tn_run_29
      · replace hg := tq_if_f c10 hg
        refine lv_iconst (v := 1) hx hb d_Tn_run_24 (by decide) ?_
        refine lv_goto (tgt := 29) hx hb d_Tn_run_25 (by decide) ?_
        exact W.iret (v := 1) hx hb hr (fun t ht hW => ⟨⟨1, σ9, rfl, tq_grI hg hn, by rw [ht]; exact hP, va_K.moved hW.alike hK, hD⟩, hS.F ht⟩) hS.2.2 d_Tn_run_29
  exact (key n0) hP hD hS hl h0
noncomputable def bk_Tn_model_0 : List Int32 → List Int64 → tq_S → Option tq_C
  | [x1], [], σ => tq_ob (tq_fI st_Tn_isBelow (0, [x1, 5], [], σ)) (fun r2 σ3 => if ¬ r2 = 0 then tq_ob (tq_fV st_Go_refresh (0, [], [], σ3)) (fun _ σ7 => tq_ob (tq_fV st_Th_settle (0, [], [], σ7)) (fun _ σ10 => tq_ob (tq_fI st_Th_typeOf (0, [x1], [], σ10)) (fun r12 σ13 => some (tq_rt, [r12], [], σ13)))) else some (tq_rt, [(-1)], [], σ3))
  | _, _, _ => none
noncomputable def st_Tn_model (c : tq_C) : Option tq_C := if c.1 = 0 then bk_Tn_model_0 c.2.1 c.2.2.1 c.2.2.2 else none
set_option maxHeartbeats 40000000 in
set_option maxRecDepth 100000 in
theorem c_Tn_model (l : Launch) (dC : Nat → ClassId) (dI : Nat → Nat → Nat) (cI cL cZ : ClassId) (ad : Nat → Nat) (tt : Nat) (sz : Nat) (σ : tq_S) (a1 : Int32) (r : Int32) (σ' : tq_S) (hf : tq_fI st_Tn_model (0, [a1], [], σ) = some (r, σ')) : Met l y_Tn_model w_Tn_model ({ frames := 12, cells := 0, slots := 0, locals := 321 } : Room) (va_Pc [.ref (ad 0), .int a1] (tq_B dC dI cI cL cZ tt (wo cI cL cZ ad σ) sz)) (va_Qi (fun (r' : Int32) (u : tq_S) => r' = r ∧ u = σ') (tq_E dC dI cI cL cZ (wo cI cL cZ ad) (va_A (wo cI cL cZ ad σ) sz)) (va_A (wo cI cL cZ ad σ) sz)) 0 0 (va_A (wo cI cL cZ ad σ) sz) := by
  obtain ⟨n0, h0⟩ := tq_fI_to hf
  refine Met.ofW (cc := prog_1_method_19_code) (maxL := 2) (ret := (some .int)) (by decide) rfl ?_
  intro p e s m args below meth c s₁ B hml hv
  obtain ⟨rfl, hsz, hP, hK, hD0, hZ, hN⟩ := hv
  have hx := B.exec
  have hb := B.bytes
  have hr := B.returns
  have hts : ∀ w ∈ tq_T, w.before _ s = true := fun w h => atoms_spec (ws := w_Tn_model) B.pre w (List.mem_cons_of_mem _ h)
  have hown : s.vm.findClass "TableauNodes" = some m.cls := findClass_of_methodNamed B.named
  have hlocks := B.notSynchronized
  subst hsz
  have hD := hD0.self (sz := s.heap.size)
  have hS : va_S (va_A (wo cI cL cZ ad σ) s.heap.size) s.heap s.heap [] := va_S.rf
  have hA : ∀ q : Nat, s.heap.size ≤ q → va_A (wo cI cL cZ ad σ) s.heap.size q := fun q h => Or.inr h
  generalize va_A (wo cI cL cZ ad σ) s.heap.size = A at hD hS hA hZ ⊢
  have hl := lv_entry ([.ref (ad 0), .int a1]) (n := 2) (Nat.le_of_ble_eq_true rfl)
  rw [lg_entry_eq]
  generalize (lg_sl ([.ref (ad 0), .int a1]) ++ List.replicate (2 - (lg_sl ([.ref (ad 0), .int a1])).length) Slot.unset).toArray = ls at hl ⊢
  have hl : lv_has ls 2 [(0, .ref (ad 0)), (1, .int a1)] := hl
  have key : ∀ n : Nat, (∀ {x1 : Int32} {σ : tq_S} {H : Heap} {locs : List Loc} {ls : Array Slot}, va_P (dC, dI) tq_cl (wo cI cL cZ ad σ) H → va_D A (wo cI cL cZ ad σ) → va_S A s.heap H locs → lv_has ls 2 [(0, .ref (ad 0)), (1, .int x1)] → tq_go st_Tn_model n (0, [x1], [], σ) = some (tq_rt, [r], [], σ') → W p l e (headSpec w_Tn_model ({ frames := 12, cells := 0, slots := 0, locals := 321 } : Room)).room s m ([.ref (ad 0), .int a1] : List Value).toArray below meth c H locs 0 0 (MQ below (va_Qi (fun (r' : Int32) (u : tq_S) => r' = r ∧ u = σ') (tq_E dC dI cI cL cZ (wo cI cL cZ ad) A) A) ([.ref (ad 0), .int a1] : List Value).toArray s 0 0 A) (F0 m 0 ls [])) := by
    intro n
    induction n with
    | zero => exact fun _ _ _ _ h => by cases h
    | succ n ih =>
      intro x1 σ H locs ls hP hD hS hl h9
      obtain ⟨q9, hg, hn⟩ := tq_go_s h9 (show ¬ (0 : Nat) = tq_rt by decide)
      replace hg : bk_Tn_model_0 [x1] [] σ = some q9 := hg
      unfold bk_Tn_model_0 at hg
      refine lv_iload_n hx hb d_Tn_model_0 rfl (lv_at hl 1 rfl) ?_
      refine lv_iconst (v := 5) hx hb d_Tn_model_1 (by decide) ?_
      obtain ⟨r2, σ3, f1, hg⟩ := tq_ob_s hg
      refine tq_aI (va_runS (As := [.int x1, .int 5]) (rest := []) ⟨hx, hb, hml, hown, hts⟩ (c_Tn_isBelow l dC dI cI cL cZ ad tt H.size σ x1 5  r2 σ3 f1) (va_cwS 2 hts (tq_gS tw_237 tw_238 tw_1 tw_239) rfl rfl rfl (by decide +kernel) ⟨Nat.le_of_ble_eq_true rfl, Nat.le_of_ble_eq_true rfl⟩) ⟨tq_bl, (tq_pr hP hK hD hS hA hZ hN)⟩ rfl rfl hl.1 rfl (lv_room (Nat.le_of_ble_eq_true rfl)) d_Tn_model_2 ⟨Nat.zero_le _, Nat.zero_le _⟩) hD hS hA (fun H locs hP hD hS => ?_)
      refine lv_if_ne (tgt := 10) hx hb d_Tn_model_5 (by decide) (fun c4 => ?_) (fun c4 => ?_)
      · replace hg := tq_if_t c4 hg
        refine lv_aload_n hx hb d_Tn_model_10 rfl (lv_at hl 0 rfl) ?_
        refine va_get (D := (dC, dI)) (ci := 0) (v := .ref (ad 3)) (C := "TableauNodes") (T := F_Tn) (N := 4) hx hb hts in_Tn hown hK hP 0 rfl rfl 2 (by decide) (hts _ tw_222) (fun _ h9 => h9) rfl d_Tn_model_11 ?_
        obtain ⟨⟨⟩, σ7, f5, hg⟩ := tq_ob_s hg
        refine tq_aV (va_runV (As := []) (rest := []) ⟨hx, hb, hml, hown, hts⟩ (c_Go_refresh l dC dI cI cL cZ ad tt H.size σ3    σ7 f5) (cwV 0 hts (tq_gV tw_311 tw_312 tw_313 tw_4 tw_314) rfl rfl rfl (by decide +kernel) ⟨Nat.le_of_ble_eq_true rfl, Nat.le_of_ble_eq_true rfl⟩) ⟨tq_bl, va_recv hK hP (ci := 3) (q0 := 3) rfl rfl, (tq_pr hP hK hD hS hA hZ hN)⟩ rfl rfl hl.1 rfl (lv_room (Nat.le_of_ble_eq_true rfl)) d_Tn_model_14 ⟨Nat.zero_le _, Nat.zero_le _⟩) hD hS hA (fun H locs hP hD hS => ?_)
        refine lv_aload_n hx hb d_Tn_model_17 rfl (lv_at hl 0 rfl) ?_
        refine va_get (D := (dC, dI)) (ci := 0) (v := .ref (ad 4)) (C := "TableauNodes") (T := F_Tn) (N := 4) hx hb hts in_Tn hown hK hP 0 rfl rfl 3 (by decide) (hts _ tw_223) (fun _ h9 => h9) rfl d_Tn_model_18 ?_
        obtain ⟨⟨⟩, σ10, f8, hg⟩ := tq_ob_s hg
        refine tq_aV (va_runV (As := []) (rest := []) ⟨hx, hb, hml, hown, hts⟩ (c_Th_settle l dC dI cI cL cZ ad tt H.size σ7    σ10 f8) (cwV 0 hts (tq_gV tw_470 tw_471 tw_472 tw_5 tw_473) rfl rfl rfl (by decide +kernel) ⟨Nat.le_of_ble_eq_true rfl, Nat.le_of_ble_eq_true rfl⟩) ⟨tq_bl, va_recv hK hP (ci := 4) (q0 := 4) rfl rfl, (tq_pr hP hK hD hS hA hZ hN)⟩ rfl rfl hl.1 rfl (lv_room (Nat.le_of_ble_eq_true rfl)) d_Tn_model_21 ⟨Nat.zero_le _, Nat.zero_le _⟩) hD hS hA (fun H locs hP hD hS => ?_)
        refine lv_aload_n hx hb d_Tn_model_24 rfl (lv_at hl 0 rfl) ?_
        refine va_get (D := (dC, dI)) (ci := 0) (v := .ref (ad 4)) (C := "TableauNodes") (T := F_Tn) (N := 4) hx hb hts in_Tn hown hK hP 0 rfl rfl 3 (by decide) (hts _ tw_223) (fun _ h9 => h9) rfl d_Tn_model_25 ?_
        refine lv_iload_n hx hb d_Tn_model_28 rfl (lv_at hl 1 rfl) ?_
        obtain ⟨r12, σ13, f11, hg⟩ := tq_ob_s hg
        refine tq_aI (va_runV (As := [.int x1]) (rest := []) ⟨hx, hb, hml, hown, hts⟩ (c_Th_typeOf l dC dI cI cL cZ ad tt H.size σ10 x1  r12 σ13 f11) (cwV 1 hts (tq_gV tw_576 tw_577 tw_578 tw_5 tw_579) rfl rfl rfl (by decide +kernel) ⟨Nat.le_of_ble_eq_true rfl, Nat.le_of_ble_eq_true rfl⟩) ⟨tq_bl, va_recv hK hP (ci := 4) (q0 := 4) rfl rfl, (tq_pr hP hK hD hS hA hZ hN)⟩ rfl rfl hl.1 rfl (lv_room (Nat.le_of_ble_eq_true rfl)) d_Tn_model_29 ⟨Nat.zero_le _, Nat.zero_le _⟩) hD hS hA (fun H locs hP hD hS => ?_)
        exact W.iret (v := r12) hx hb hr (fun t ht hW => ⟨⟨r12, σ13, rfl, tq_grI hg hn, by rw [ht]; exact hP, va_K.moved hW.alike hK, hD⟩, hS.F ht⟩) hS.2.2 d_Tn_model_32
      · replace hg := tq_if_n c4 hg
        refine lv_iconst (v := (-1)) hx hb d_Tn_model_8 (by decide) ?_
        exact W.iret (v := (-1)) hx hb hr (fun t ht hW => ⟨⟨(-1), σ3, rfl, tq_grI hg hn, by rw [ht]; exact hP, va_K.moved hW.alike hK, hD⟩, hS.F ht⟩) hS.2.2 d_Tn_model_9
  exact (key n0) hP hD hS hl h0
noncomputable def bk_Tn_surely_0 : List Int32 → List Int64 → tq_S → Option tq_C
  | [x1, x2], [], σ => tq_ob (tq_fI st_Tn_isBelow (0, [x1, 5], [], σ)) (fun r2 σ3 => if r2 = 0 then some (tq_rt, [(-1)], [], σ3) else tq_ob (tq_fI st_Co_isThere (0, [x2], [], σ3)) (fun r6 σ7 => if ¬ r6 = 0 then tq_ob (tq_fV st_Go_refresh (0, [], [], σ7)) (fun _ σ11 => tq_ob (tq_fV st_Th_settle (0, [], [], σ11)) (fun _ σ14 => tq_ob (tq_fI st_Th_canLack (0, [x1, x2], [], σ14)) (fun r16 σ17 => if r16 = 0 then some (tq_rt, [1], [], σ17) else some (tq_rt, [0], [], σ17)))) else some (tq_rt, [(-1)], [], σ7)))
  | _, _, _ => none
noncomputable def st_Tn_surely (c : tq_C) : Option tq_C := if c.1 = 0 then bk_Tn_surely_0 c.2.1 c.2.2.1 c.2.2.2 else none
set_option maxHeartbeats 40000000 in
set_option maxRecDepth 100000 in
theorem c_Tn_surely (l : Launch) (dC : Nat → ClassId) (dI : Nat → Nat → Nat) (cI cL cZ : ClassId) (ad : Nat → Nat) (tt : Nat) (sz : Nat) (σ : tq_S) (a1 : Int32) (a2 : Int32) (r : Int32) (σ' : tq_S) (hf : tq_fI st_Tn_surely (0, [a1, a2], [], σ) = some (r, σ')) : Met l y_Tn_surely w_Tn_surely ({ frames := 12, cells := 0, slots := 0, locals := 321 } : Room) (va_Pc [.ref (ad 0), .int a1, .int a2] (tq_B dC dI cI cL cZ tt (wo cI cL cZ ad σ) sz)) (va_Qi (fun (r' : Int32) (u : tq_S) => r' = r ∧ u = σ') (tq_E dC dI cI cL cZ (wo cI cL cZ ad) (va_A (wo cI cL cZ ad σ) sz)) (va_A (wo cI cL cZ ad σ) sz)) 0 0 (va_A (wo cI cL cZ ad σ) sz) := by
  obtain ⟨n0, h0⟩ := tq_fI_to hf
  refine Met.ofW (cc := prog_1_method_20_code) (maxL := 3) (ret := (some .int)) (by decide) rfl ?_
  intro p e s m args below meth c s₁ B hml hv
  obtain ⟨rfl, hsz, hP, hK, hD0, hZ, hN⟩ := hv
  have hx := B.exec
  have hb := B.bytes
  have hr := B.returns
  have hts : ∀ w ∈ tq_T, w.before _ s = true := fun w h => atoms_spec (ws := w_Tn_surely) B.pre w (List.mem_cons_of_mem _ h)
  have hown : s.vm.findClass "TableauNodes" = some m.cls := findClass_of_methodNamed B.named
  have hlocks := B.notSynchronized
  subst hsz
  have hD := hD0.self (sz := s.heap.size)
  have hS : va_S (va_A (wo cI cL cZ ad σ) s.heap.size) s.heap s.heap [] := va_S.rf
  have hA : ∀ q : Nat, s.heap.size ≤ q → va_A (wo cI cL cZ ad σ) s.heap.size q := fun q h => Or.inr h
  generalize va_A (wo cI cL cZ ad σ) s.heap.size = A at hD hS hA hZ ⊢
  have hl := lv_entry ([.ref (ad 0), .int a1, .int a2]) (n := 3) (Nat.le_of_ble_eq_true rfl)
  rw [lg_entry_eq]
  generalize (lg_sl ([.ref (ad 0), .int a1, .int a2]) ++ List.replicate (3 - (lg_sl ([.ref (ad 0), .int a1, .int a2])).length) Slot.unset).toArray = ls at hl ⊢
  have hl : lv_has ls 3 [(0, .ref (ad 0)), (1, .int a1), (2, .int a2)] := hl
  have key : ∀ n : Nat, (∀ {x1 x2 : Int32} {σ : tq_S} {H : Heap} {locs : List Loc} {ls : Array Slot}, va_P (dC, dI) tq_cl (wo cI cL cZ ad σ) H → va_D A (wo cI cL cZ ad σ) → va_S A s.heap H locs → lv_has ls 3 [(0, .ref (ad 0)), (1, .int x1), (2, .int x2)] → tq_go st_Tn_surely n (0, [x1, x2], [], σ) = some (tq_rt, [r], [], σ') → W p l e (headSpec w_Tn_surely ({ frames := 12, cells := 0, slots := 0, locals := 321 } : Room)).room s m ([.ref (ad 0), .int a1, .int a2] : List Value).toArray below meth c H locs 0 0 (MQ below (va_Qi (fun (r' : Int32) (u : tq_S) => r' = r ∧ u = σ') (tq_E dC dI cI cL cZ (wo cI cL cZ ad) A) A) ([.ref (ad 0), .int a1, .int a2] : List Value).toArray s 0 0 A) (F0 m 0 ls [])) := by
    intro n
    induction n with
    | zero => exact fun _ _ _ _ h => by cases h
    | succ n ih =>
      intro x1 x2 σ H locs ls hP hD hS hl h9
      obtain ⟨q9, hg, hn⟩ := tq_go_s h9 (show ¬ (0 : Nat) = tq_rt by decide)
      replace hg : bk_Tn_surely_0 [x1, x2] [] σ = some q9 := hg
      unfold bk_Tn_surely_0 at hg
      refine lv_iload_n hx hb d_Tn_surely_0 rfl (lv_at hl 1 rfl) ?_
      refine lv_iconst (v := 5) hx hb d_Tn_surely_1 (by decide) ?_
      obtain ⟨r2, σ3, f1, hg⟩ := tq_ob_s hg
      refine tq_aI (va_runS (As := [.int x1, .int 5]) (rest := []) ⟨hx, hb, hml, hown, hts⟩ (c_Tn_isBelow l dC dI cI cL cZ ad tt H.size σ x1 5  r2 σ3 f1) (va_cwS 2 hts (tq_gS tw_237 tw_238 tw_1 tw_239) rfl rfl rfl (by decide +kernel) ⟨Nat.le_of_ble_eq_true rfl, Nat.le_of_ble_eq_true rfl⟩) ⟨tq_bl, (tq_pr hP hK hD hS hA hZ hN)⟩ rfl rfl hl.1 rfl (lv_room (Nat.le_of_ble_eq_true rfl)) d_Tn_surely_2 ⟨Nat.zero_le _, Nat.zero_le _⟩) hD hS hA (fun H locs hP hD hS => ?_)
      refine lv_if_eq (tgt := 19) hx hb d_Tn_surely_5 (by decide) (fun c4 => ?_) (fun c4 => ?_)
      · replace hg := tq_if_t c4 hg
        refine lv_iconst (v := (-1)) hx hb d_Tn_surely_19 (by decide) ?_
        exact W.iret (v := (-1)) hx hb hr (fun t ht hW => ⟨⟨(-1), σ3, rfl, tq_grI hg hn, by rw [ht]; exact hP, va_K.moved hW.alike hK, hD⟩, hS.F ht⟩) hS.2.2 d_Tn_surely_20
      · replace hg := tq_if_f c4 hg
        refine lv_aload_n hx hb d_Tn_surely_8 rfl (lv_at hl 0 rfl) ?_
        refine va_get (D := (dC, dI)) (ci := 0) (v := .ref (ad 1)) (C := "TableauNodes") (T := F_Tn) (N := 4) hx hb hts in_Tn hown hK hP 0 rfl rfl 0 (by decide) (hts _ tw_220) (fun _ h9 => h9) rfl d_Tn_surely_9 ?_
        refine lv_iload_n hx hb d_Tn_surely_12 rfl (lv_at hl 2 rfl) ?_
        obtain ⟨r6, σ7, f5, hg⟩ := tq_ob_s hg
        refine tq_aI (va_runV (As := [.int x2]) (rest := []) ⟨hx, hb, hml, hown, hts⟩ (c_Co_isThere l dC dI cI cL cZ ad tt H.size σ3 x2  r6 σ7 f5) (cwV 1 hts (tq_gV tw_245 tw_246 tw_247 tw_2 tw_248) rfl rfl rfl (by decide +kernel) ⟨Nat.le_of_ble_eq_true rfl, Nat.le_of_ble_eq_true rfl⟩) ⟨tq_bl, va_recv hK hP (ci := 1) (q0 := 1) rfl rfl, (tq_pr hP hK hD hS hA hZ hN)⟩ rfl rfl hl.1 rfl (lv_room (Nat.le_of_ble_eq_true rfl)) d_Tn_surely_13 ⟨Nat.zero_le _, Nat.zero_le _⟩) hD hS hA (fun H locs hP hD hS => ?_)
        refine lv_if_ne (tgt := 21) hx hb d_Tn_surely_16 (by decide) (fun c8 => ?_) (fun c8 => ?_)
        · replace hg := tq_if_t c8 hg
          refine lv_aload_n hx hb d_Tn_surely_21 rfl (lv_at hl 0 rfl) ?_
          refine va_get (D := (dC, dI)) (ci := 0) (v := .ref (ad 3)) (C := "TableauNodes") (T := F_Tn) (N := 4) hx hb hts in_Tn hown hK hP 0 rfl rfl 2 (by decide) (hts _ tw_222) (fun _ h9 => h9) rfl d_Tn_surely_22 ?_
          obtain ⟨⟨⟩, σ11, f9, hg⟩ := tq_ob_s hg
          refine tq_aV (va_runV (As := []) (rest := []) ⟨hx, hb, hml, hown, hts⟩ (c_Go_refresh l dC dI cI cL cZ ad tt H.size σ7    σ11 f9) (cwV 0 hts (tq_gV tw_311 tw_312 tw_313 tw_4 tw_314) rfl rfl rfl (by decide +kernel) ⟨Nat.le_of_ble_eq_true rfl, Nat.le_of_ble_eq_true rfl⟩) ⟨tq_bl, va_recv hK hP (ci := 3) (q0 := 3) rfl rfl, (tq_pr hP hK hD hS hA hZ hN)⟩ rfl rfl hl.1 rfl (lv_room (Nat.le_of_ble_eq_true rfl)) d_Tn_surely_25 ⟨Nat.zero_le _, Nat.zero_le _⟩) hD hS hA (fun H locs hP hD hS => ?_)
          refine lv_aload_n hx hb d_Tn_surely_28 rfl (lv_at hl 0 rfl) ?_
          refine va_get (D := (dC, dI)) (ci := 0) (v := .ref (ad 4)) (C := "TableauNodes") (T := F_Tn) (N := 4) hx hb hts in_Tn hown hK hP 0 rfl rfl 3 (by decide) (hts _ tw_223) (fun _ h9 => h9) rfl d_Tn_surely_29 ?_
          obtain ⟨⟨⟩, σ14, f12, hg⟩ := tq_ob_s hg
          refine tq_aV (va_runV (As := []) (rest := []) ⟨hx, hb, hml, hown, hts⟩ (c_Th_settle l dC dI cI cL cZ ad tt H.size σ11    σ14 f12) (cwV 0 hts (tq_gV tw_470 tw_471 tw_472 tw_5 tw_473) rfl rfl rfl (by decide +kernel) ⟨Nat.le_of_ble_eq_true rfl, Nat.le_of_ble_eq_true rfl⟩) ⟨tq_bl, va_recv hK hP (ci := 4) (q0 := 4) rfl rfl, (tq_pr hP hK hD hS hA hZ hN)⟩ rfl rfl hl.1 rfl (lv_room (Nat.le_of_ble_eq_true rfl)) d_Tn_surely_32 ⟨Nat.zero_le _, Nat.zero_le _⟩) hD hS hA (fun H locs hP hD hS => ?_)
          refine lv_aload_n hx hb d_Tn_surely_35 rfl (lv_at hl 0 rfl) ?_
          refine va_get (D := (dC, dI)) (ci := 0) (v := .ref (ad 4)) (C := "TableauNodes") (T := F_Tn) (N := 4) hx hb hts in_Tn hown hK hP 0 rfl rfl 3 (by decide) (hts _ tw_223) (fun _ h9 => h9) rfl d_Tn_surely_36 ?_
          refine lv_iload_n hx hb d_Tn_surely_39 rfl (lv_at hl 1 rfl) ?_
          refine lv_iload_n hx hb d_Tn_surely_40 rfl (lv_at hl 2 rfl) ?_
          obtain ⟨r16, σ17, f15, hg⟩ := tq_ob_s hg
          refine tq_aI (va_runV (As := [.int x1, .int x2]) (rest := []) ⟨hx, hb, hml, hown, hts⟩ (c_Th_canLack l dC dI cI cL cZ ad tt H.size σ14 x1 x2  r16 σ17 f15) (cwV 2 hts (tq_gV tw_584 tw_585 tw_586 tw_5 tw_587) rfl rfl rfl (by decide +kernel) ⟨Nat.le_of_ble_eq_true rfl, Nat.le_of_ble_eq_true rfl⟩) ⟨tq_bl, va_recv hK hP (ci := 4) (q0 := 4) rfl rfl, (tq_pr hP hK hD hS hA hZ hN)⟩ rfl rfl hl.1 rfl (lv_room (Nat.le_of_ble_eq_true rfl)) d_Tn_surely_41 ⟨Nat.zero_le _, Nat.zero_le _⟩) hD hS hA (fun H locs hP hD hS => ?_)
          refine lv_if_eq (tgt := 51) hx hb d_Tn_surely_44 (by decide) (fun c18 => ?_) (fun c18 => ?_)
          · replace hg := tq_if_t c18 hg
            refine lv_iconst (v := 1) hx hb d_Tn_surely_51 (by decide) ?_
            exact W.iret (v := 1) hx hb hr (fun t ht hW => ⟨⟨1, σ17, rfl, tq_grI hg hn, by rw [ht]; exact hP, va_K.moved hW.alike hK, hD⟩, hS.F ht⟩) hS.2.2 d_Tn_surely_52
          · replace hg := tq_if_f c18 hg
            refine lv_iconst (v := 0) hx hb d_Tn_surely_47 (by decide) ?_
            refine lv_goto (tgt := 52) hx hb d_Tn_surely_48 (by decide) ?_
            exact W.iret (v := 0) hx hb hr (fun t ht hW => ⟨⟨0, σ17, rfl, tq_grI hg hn, by rw [ht]; exact hP, va_K.moved hW.alike hK, hD⟩, hS.F ht⟩) hS.2.2 d_Tn_surely_52
        · replace hg := tq_if_n c8 hg
          refine lv_iconst (v := (-1)) hx hb d_Tn_surely_19 (by decide) ?_
          exact W.iret (v := (-1)) hx hb hr (fun t ht hW => ⟨⟨(-1), σ7, rfl, tq_grI hg hn, by rw [ht]; exact hP, va_K.moved hW.alike hK, hD⟩, hS.F ht⟩) hS.2.2 d_Tn_surely_20
  exact (key n0) hP hD hS hl h0
noncomputable def bk_Mo_isConcept_0 : List Int32 → List Int64 → tq_S → Option tq_C
  | [x1], [], σ => if x1 < 0 then some (tq_rt, [0], [], σ) else if (σ.2.2 13) ≤ x1 then some (tq_rt, [0], [], σ) else some (tq_rt, [1], [], σ)
  | _, _, _ => none
noncomputable def st_Mo_isConcept (c : tq_C) : Option tq_C := if c.1 = 0 then bk_Mo_isConcept_0 c.2.1 c.2.2.1 c.2.2.2 else none
set_option maxHeartbeats 40000000 in
set_option maxRecDepth 100000 in
theorem c_Mo_isConcept (l : Launch) (dC : Nat → ClassId) (dI : Nat → Nat → Nat) (cI cL cZ : ClassId) (ad : Nat → Nat) (tt : Nat) (sz : Nat) (σ : tq_S) (a1 : Int32) (r : Int32) (σ' : tq_S) (hf : tq_fI st_Mo_isConcept (0, [a1], [], σ) = some (r, σ')) : Met l y_Mo_isConcept w_Mo_isConcept ({ frames := 0, cells := 0, slots := 0, locals := 0 } : Room) (va_Pc [.ref (ad 5), .int a1] (tq_B dC dI cI cL cZ tt (wo cI cL cZ ad σ) sz)) (va_Qi (fun (r' : Int32) (u : tq_S) => r' = r ∧ u = σ') (tq_E dC dI cI cL cZ (wo cI cL cZ ad) (va_A (wo cI cL cZ ad σ) sz)) (va_A (wo cI cL cZ ad σ) sz)) 0 0 (va_A (wo cI cL cZ ad σ) sz) := by
  obtain ⟨n0, h0⟩ := tq_fI_to hf
  refine Met.ofW (cc := prog_7_method_2_code) (maxL := 2) (ret := (some .boolean)) (by decide) rfl ?_
  intro p e s m args below meth c s₁ B hml hv
  obtain ⟨rfl, hsz, hP, hK, hD0, hZ, hN⟩ := hv
  have hx := B.exec
  have hb := B.bytes
  have hr := B.returns
  have hts : ∀ w ∈ tq_T, w.before _ s = true := fun w h => atoms_spec (ws := w_Mo_isConcept) B.pre w (List.mem_cons_of_mem _ h)
  have hown : s.vm.findClass "TableauNodesModel" = some m.cls := findClass_of_methodNamed B.named
  have hlocks := B.notSynchronized
  subst hsz
  have hD := hD0.self (sz := s.heap.size)
  have hS : va_S (va_A (wo cI cL cZ ad σ) s.heap.size) s.heap s.heap [] := va_S.rf
  have hA : ∀ q : Nat, s.heap.size ≤ q → va_A (wo cI cL cZ ad σ) s.heap.size q := fun q h => Or.inr h
  generalize va_A (wo cI cL cZ ad σ) s.heap.size = A at hD hS hA hZ ⊢
  have hl := lv_entry ([.ref (ad 5), .int a1]) (n := 2) (Nat.le_of_ble_eq_true rfl)
  rw [lg_entry_eq]
  generalize (lg_sl ([.ref (ad 5), .int a1]) ++ List.replicate (2 - (lg_sl ([.ref (ad 5), .int a1])).length) Slot.unset).toArray = ls at hl ⊢
  have hl : lv_has ls 2 [(0, .ref (ad 5)), (1, .int a1)] := hl
  have key : ∀ n : Nat, (∀ {x1 : Int32} {σ : tq_S} {H : Heap} {locs : List Loc} {ls : Array Slot}, va_P (dC, dI) tq_cl (wo cI cL cZ ad σ) H → va_D A (wo cI cL cZ ad σ) → va_S A s.heap H locs → lv_has ls 2 [(0, .ref (ad 5)), (1, .int x1)] → tq_go st_Mo_isConcept n (0, [x1], [], σ) = some (tq_rt, [r], [], σ') → W p l e (headSpec w_Mo_isConcept ({ frames := 0, cells := 0, slots := 0, locals := 0 } : Room)).room s m ([.ref (ad 5), .int a1] : List Value).toArray below meth c H locs 0 0 (MQ below (va_Qi (fun (r' : Int32) (u : tq_S) => r' = r ∧ u = σ') (tq_E dC dI cI cL cZ (wo cI cL cZ ad) A) A) ([.ref (ad 5), .int a1] : List Value).toArray s 0 0 A) (F0 m 0 ls [])) := by
    intro n
    induction n with
    | zero => exact fun _ _ _ _ h => by cases h
    | succ n ih =>
      intro x1 σ H locs ls hP hD hS hl h9
      obtain ⟨q9, hg, hn⟩ := tq_go_s h9 (show ¬ (0 : Nat) = tq_rt by decide)
      replace hg : bk_Mo_isConcept_0 [x1] [] σ = some q9 := hg
      unfold bk_Mo_isConcept_0 at hg
      refine lv_iload_n hx hb d_Mo_isConcept_0 rfl (lv_at hl 1 rfl) ?_
      refine lv_if_lt (tgt := 16) hx hb d_Mo_isConcept_1 (by decide) (fun c1 => ?_) (fun c1 => ?_)
      · replace hg := tq_if_t c1 hg
        refine lv_iconst (v := 0) hx hb d_Mo_isConcept_16 (by decide) ?_
        exact W.zret (v := 0) hx hb hr rfl (fun t ht hW => ⟨⟨0, σ, rfl, tq_grI hg hn, by rw [ht]; exact hP, va_K.moved hW.alike hK, hD⟩, hS.F ht⟩) hS.2.2 d_Mo_isConcept_17
      · replace hg := tq_if_f c1 hg
        refine lv_iload_n hx hb d_Mo_isConcept_4 rfl (lv_at hl 1 rfl) ?_
        refine lv_aload_n hx hb d_Mo_isConcept_5 rfl (lv_at hl 0 rfl) ?_
        refine va_get (D := (dC, dI)) (ci := 5) (v := .int (σ.2.2 13)) (C := "TableauNodesModel") (T := F_Mo) (N := 25) hx hb hts in_Mo hown hK hP 5 rfl rfl 3 (by decide) (hts _ tw_602) (fun _ h9 => h9) rfl d_Mo_isConcept_6 ?_
        refine lv_icmp_ge (tgt := 16) hx hb d_Mo_isConcept_9 (by decide) (fun c2 => ?_) (fun c2 => ?_)
        · replace hg := tq_if_t c2 hg
          refine lv_iconst (v := 0) hx hb d_Mo_isConcept_16 (by decide) ?_
          exact W.zret (v := 0) hx hb hr rfl (fun t ht hW => ⟨⟨0, σ, rfl, tq_grI hg hn, by rw [ht]; exact hP, va_K.moved hW.alike hK, hD⟩, hS.F ht⟩) hS.2.2 d_Mo_isConcept_17
        · replace hg := tq_if_f c2 hg
          refine lv_iconst (v := 1) hx hb d_Mo_isConcept_12 (by decide) ?_
          refine lv_goto (tgt := 17) hx hb d_Mo_isConcept_13 (by decide) ?_
          exact W.zret (v := 1) hx hb hr rfl (fun t ht hW => ⟨⟨1, σ, rfl, tq_grI hg hn, by rw [ht]; exact hP, va_K.moved hW.alike hK, hD⟩, hS.F ht⟩) hS.2.2 d_Mo_isConcept_17
  exact (key n0) hP hD hS hl h0
noncomputable def bk_Mo_isRole_0 : List Int32 → List Int64 → tq_S → Option tq_C
  | [x0], [], σ => if x0 < 0 then some (tq_rt, [0], [], σ) else if 4 ≤ x0 then some (tq_rt, [0], [], σ) else some (tq_rt, [1], [], σ)
  | _, _, _ => none
noncomputable def st_Mo_isRole (c : tq_C) : Option tq_C := if c.1 = 0 then bk_Mo_isRole_0 c.2.1 c.2.2.1 c.2.2.2 else none
set_option maxHeartbeats 40000000 in
set_option maxRecDepth 100000 in
theorem c_Mo_isRole (l : Launch) (dC : Nat → ClassId) (dI : Nat → Nat → Nat) (cI cL cZ : ClassId) (ad : Nat → Nat) (tt : Nat) (sz : Nat) (σ : tq_S) (a0 : Int32) (r : Int32) (σ' : tq_S) (hf : tq_fI st_Mo_isRole (0, [a0], [], σ) = some (r, σ')) : Met l y_Mo_isRole w_Mo_isRole ({ frames := 0, cells := 0, slots := 0, locals := 0 } : Room) (va_Pc [.int a0] (tq_B dC dI cI cL cZ tt (wo cI cL cZ ad σ) sz)) (va_Qi (fun (r' : Int32) (u : tq_S) => r' = r ∧ u = σ') (tq_E dC dI cI cL cZ (wo cI cL cZ ad) (va_A (wo cI cL cZ ad σ) sz)) (va_A (wo cI cL cZ ad σ) sz)) 0 0 (va_A (wo cI cL cZ ad σ) sz) := by
  obtain ⟨n0, h0⟩ := tq_fI_to hf
  refine Met.ofW (cc := prog_7_method_3_code) (maxL := 1) (ret := (some .boolean)) (by decide) rfl ?_
  intro p e s m args below meth c s₁ B hml hv
  obtain ⟨rfl, hsz, hP, hK, hD0, hZ, hN⟩ := hv
  have hx := B.exec
  have hb := B.bytes
  have hr := B.returns
  have hts : ∀ w ∈ tq_T, w.before _ s = true := fun w h => atoms_spec (ws := w_Mo_isRole) B.pre w (List.mem_cons_of_mem _ h)
  have hown : s.vm.findClass "TableauNodesModel" = some m.cls := findClass_of_methodNamed B.named
  have hlocks := B.notSynchronized
  subst hsz
  have hD := hD0.self (sz := s.heap.size)
  have hS : va_S (va_A (wo cI cL cZ ad σ) s.heap.size) s.heap s.heap [] := va_S.rf
  have hA : ∀ q : Nat, s.heap.size ≤ q → va_A (wo cI cL cZ ad σ) s.heap.size q := fun q h => Or.inr h
  generalize va_A (wo cI cL cZ ad σ) s.heap.size = A at hD hS hA hZ ⊢
  have hl := lv_entry ([.int a0]) (n := 1) (Nat.le_of_ble_eq_true rfl)
  rw [lg_entry_eq]
  generalize (lg_sl ([.int a0]) ++ List.replicate (1 - (lg_sl ([.int a0])).length) Slot.unset).toArray = ls at hl ⊢
  have hl : lv_has ls 1 [(0, .int a0)] := hl
  have key : ∀ n : Nat, (∀ {x0 : Int32} {σ : tq_S} {H : Heap} {locs : List Loc} {ls : Array Slot}, va_P (dC, dI) tq_cl (wo cI cL cZ ad σ) H → va_D A (wo cI cL cZ ad σ) → va_S A s.heap H locs → lv_has ls 1 [(0, .int x0)] → tq_go st_Mo_isRole n (0, [x0], [], σ) = some (tq_rt, [r], [], σ') → W p l e (headSpec w_Mo_isRole ({ frames := 0, cells := 0, slots := 0, locals := 0 } : Room)).room s m ([.int a0] : List Value).toArray below meth c H locs 0 0 (MQ below (va_Qi (fun (r' : Int32) (u : tq_S) => r' = r ∧ u = σ') (tq_E dC dI cI cL cZ (wo cI cL cZ ad) A) A) ([.int a0] : List Value).toArray s 0 0 A) (F0 m 0 ls [])) := by
    intro n
    induction n with
    | zero => exact fun _ _ _ _ h => by cases h
    | succ n ih =>
      intro x0 σ H locs ls hP hD hS hl h9
      obtain ⟨q9, hg, hn⟩ := tq_go_s h9 (show ¬ (0 : Nat) = tq_rt by decide)
      replace hg : bk_Mo_isRole_0 [x0] [] σ = some q9 := hg
      unfold bk_Mo_isRole_0 at hg
      refine lv_iload_n hx hb d_Mo_isRole_0 rfl (lv_at hl 0 rfl) ?_
      refine lv_if_lt (tgt := 13) hx hb d_Mo_isRole_1 (by decide) (fun c1 => ?_) (fun c1 => ?_)
      · replace hg := tq_if_t c1 hg
        refine lv_iconst (v := 0) hx hb d_Mo_isRole_13 (by decide) ?_
        exact W.zret (v := 0) hx hb hr rfl (fun t ht hW => ⟨⟨0, σ, rfl, tq_grI hg hn, by rw [ht]; exact hP, va_K.moved hW.alike hK, hD⟩, hS.F ht⟩) hS.2.2 d_Mo_isRole_14
      · replace hg := tq_if_f c1 hg
        refine lv_iload_n hx hb d_Mo_isRole_4 rfl (lv_at hl 0 rfl) ?_
        refine lv_iconst (v := 4) hx hb d_Mo_isRole_5 (by decide) ?_
        refine lv_icmp_ge (tgt := 13) hx hb d_Mo_isRole_6 (by decide) (fun c2 => ?_) (fun c2 => ?_)
        · replace hg := tq_if_t c2 hg
          refine lv_iconst (v := 0) hx hb d_Mo_isRole_13 (by decide) ?_
          exact W.zret (v := 0) hx hb hr rfl (fun t ht hW => ⟨⟨0, σ, rfl, tq_grI hg hn, by rw [ht]; exact hP, va_K.moved hW.alike hK, hD⟩, hS.F ht⟩) hS.2.2 d_Mo_isRole_14
        · replace hg := tq_if_f c2 hg
          refine lv_iconst (v := 1) hx hb d_Mo_isRole_9 (by decide) ?_
          refine lv_goto (tgt := 14) hx hb d_Mo_isRole_10 (by decide) ?_
          exact W.zret (v := 1) hx hb hr rfl (fun t ht hW => ⟨⟨1, σ, rfl, tq_grI hg hn, by rw [ht]; exact hP, va_K.moved hW.alike hK, hD⟩, hS.F ht⟩) hS.2.2 d_Mo_isRole_14
  exact (key n0) hP hD hS hl h0
noncomputable def bk_Mo_isThing_0 : List Int32 → List Int64 → tq_S → Option tq_C
  | [x0], [], σ => if x0 < 0 then some (tq_rt, [0], [], σ) else if 5 ≤ x0 then some (tq_rt, [0], [], σ) else some (tq_rt, [1], [], σ)
  | _, _, _ => none
noncomputable def st_Mo_isThing (c : tq_C) : Option tq_C := if c.1 = 0 then bk_Mo_isThing_0 c.2.1 c.2.2.1 c.2.2.2 else none
set_option maxHeartbeats 40000000 in
set_option maxRecDepth 100000 in
theorem c_Mo_isThing (l : Launch) (dC : Nat → ClassId) (dI : Nat → Nat → Nat) (cI cL cZ : ClassId) (ad : Nat → Nat) (tt : Nat) (sz : Nat) (σ : tq_S) (a0 : Int32) (r : Int32) (σ' : tq_S) (hf : tq_fI st_Mo_isThing (0, [a0], [], σ) = some (r, σ')) : Met l y_Mo_isThing w_Mo_isThing ({ frames := 0, cells := 0, slots := 0, locals := 0 } : Room) (va_Pc [.int a0] (tq_B dC dI cI cL cZ tt (wo cI cL cZ ad σ) sz)) (va_Qi (fun (r' : Int32) (u : tq_S) => r' = r ∧ u = σ') (tq_E dC dI cI cL cZ (wo cI cL cZ ad) (va_A (wo cI cL cZ ad σ) sz)) (va_A (wo cI cL cZ ad σ) sz)) 0 0 (va_A (wo cI cL cZ ad σ) sz) := by
  obtain ⟨n0, h0⟩ := tq_fI_to hf
  refine Met.ofW (cc := prog_7_method_4_code) (maxL := 1) (ret := (some .boolean)) (by decide) rfl ?_
  intro p e s m args below meth c s₁ B hml hv
  obtain ⟨rfl, hsz, hP, hK, hD0, hZ, hN⟩ := hv
  have hx := B.exec
  have hb := B.bytes
  have hr := B.returns
  have hts : ∀ w ∈ tq_T, w.before _ s = true := fun w h => atoms_spec (ws := w_Mo_isThing) B.pre w (List.mem_cons_of_mem _ h)
  have hown : s.vm.findClass "TableauNodesModel" = some m.cls := findClass_of_methodNamed B.named
  have hlocks := B.notSynchronized
  subst hsz
  have hD := hD0.self (sz := s.heap.size)
  have hS : va_S (va_A (wo cI cL cZ ad σ) s.heap.size) s.heap s.heap [] := va_S.rf
  have hA : ∀ q : Nat, s.heap.size ≤ q → va_A (wo cI cL cZ ad σ) s.heap.size q := fun q h => Or.inr h
  generalize va_A (wo cI cL cZ ad σ) s.heap.size = A at hD hS hA hZ ⊢
  have hl := lv_entry ([.int a0]) (n := 1) (Nat.le_of_ble_eq_true rfl)
  rw [lg_entry_eq]
  generalize (lg_sl ([.int a0]) ++ List.replicate (1 - (lg_sl ([.int a0])).length) Slot.unset).toArray = ls at hl ⊢
  have hl : lv_has ls 1 [(0, .int a0)] := hl
  have key : ∀ n : Nat, (∀ {x0 : Int32} {σ : tq_S} {H : Heap} {locs : List Loc} {ls : Array Slot}, va_P (dC, dI) tq_cl (wo cI cL cZ ad σ) H → va_D A (wo cI cL cZ ad σ) → va_S A s.heap H locs → lv_has ls 1 [(0, .int x0)] → tq_go st_Mo_isThing n (0, [x0], [], σ) = some (tq_rt, [r], [], σ') → W p l e (headSpec w_Mo_isThing ({ frames := 0, cells := 0, slots := 0, locals := 0 } : Room)).room s m ([.int a0] : List Value).toArray below meth c H locs 0 0 (MQ below (va_Qi (fun (r' : Int32) (u : tq_S) => r' = r ∧ u = σ') (tq_E dC dI cI cL cZ (wo cI cL cZ ad) A) A) ([.int a0] : List Value).toArray s 0 0 A) (F0 m 0 ls [])) := by
    intro n
    induction n with
    | zero => exact fun _ _ _ _ h => by cases h
    | succ n ih =>
      intro x0 σ H locs ls hP hD hS hl h9
      obtain ⟨q9, hg, hn⟩ := tq_go_s h9 (show ¬ (0 : Nat) = tq_rt by decide)
      replace hg : bk_Mo_isThing_0 [x0] [] σ = some q9 := hg
      unfold bk_Mo_isThing_0 at hg
      refine lv_iload_n hx hb d_Mo_isThing_0 rfl (lv_at hl 0 rfl) ?_
      refine lv_if_lt (tgt := 13) hx hb d_Mo_isThing_1 (by decide) (fun c1 => ?_) (fun c1 => ?_)
      · replace hg := tq_if_t c1 hg
        refine lv_iconst (v := 0) hx hb d_Mo_isThing_13 (by decide) ?_
        exact W.zret (v := 0) hx hb hr rfl (fun t ht hW => ⟨⟨0, σ, rfl, tq_grI hg hn, by rw [ht]; exact hP, va_K.moved hW.alike hK, hD⟩, hS.F ht⟩) hS.2.2 d_Mo_isThing_14
      · replace hg := tq_if_f c1 hg
        refine lv_iload_n hx hb d_Mo_isThing_4 rfl (lv_at hl 0 rfl) ?_
        refine lv_iconst (v := 5) hx hb d_Mo_isThing_5 (by decide) ?_
        refine lv_icmp_ge (tgt := 13) hx hb d_Mo_isThing_6 (by decide) (fun c2 => ?_) (fun c2 => ?_)
        · replace hg := tq_if_t c2 hg
          refine lv_iconst (v := 0) hx hb d_Mo_isThing_13 (by decide) ?_
          exact W.zret (v := 0) hx hb hr rfl (fun t ht hW => ⟨⟨0, σ, rfl, tq_grI hg hn, by rw [ht]; exact hP, va_K.moved hW.alike hK, hD⟩, hS.F ht⟩) hS.2.2 d_Mo_isThing_14
        · replace hg := tq_if_f c2 hg
          refine lv_iconst (v := 1) hx hb d_Mo_isThing_9 (by decide) ?_
          refine lv_goto (tgt := 14) hx hb d_Mo_isThing_10 (by decide) ?_
          exact W.zret (v := 1) hx hb hr rfl (fun t ht hW => ⟨⟨1, σ, rfl, tq_grI hg hn, by rw [ht]; exact hP, va_K.moved hW.alike hK, hD⟩, hS.F ht⟩) hS.2.2 d_Mo_isThing_14
  exact (key n0) hP hD hS hl h0
noncomputable def bk_Mo_find_0 : List Int32 → List Int64 → tq_S → Option tq_C
  | [x1, x2, x3], [], σ => some (3, [x1, x2, x3, 0], [], σ)
  | _, _, _ => none
noncomputable def bk_Mo_find_3 : List Int32 → List Int64 → tq_S → Option tq_C
  | [x1, x2, x3, x4], [], σ => if (σ.2.2 13) ≤ x4 then some (tq_rt, [x4], [], σ) else tq_gd x4 80 (if ¬ (ia σ 17 x4) = x1 then tq_lj (x4 + 1) (fun v4 => some (3, [x1, x2, x3, v4], [], σ)) else tq_gd x4 80 (if ¬ (ia σ 18 x4) = x2 then tq_lj (x4 + 1) (fun v7 => some (3, [x1, x2, x3, v7], [], σ)) else tq_gd x4 80 (if (ia σ 19 x4) = x3 then some (tq_rt, [x4], [], σ) else tq_lj (x4 + 1) (fun v10 => some (3, [x1, x2, x3, v10], [], σ)))))
  | _, _, _ => none
noncomputable def st_Mo_find (c : tq_C) : Option tq_C := if c.1 = 0 then bk_Mo_find_0 c.2.1 c.2.2.1 c.2.2.2 else if c.1 = 3 then bk_Mo_find_3 c.2.1 c.2.2.1 c.2.2.2 else none
set_option maxHeartbeats 40000000 in
set_option maxRecDepth 100000 in
theorem c_Mo_find (l : Launch) (dC : Nat → ClassId) (dI : Nat → Nat → Nat) (cI cL cZ : ClassId) (ad : Nat → Nat) (tt : Nat) (sz : Nat) (σ : tq_S) (a1 : Int32) (a2 : Int32) (a3 : Int32) (r : Int32) (σ' : tq_S) (hf : tq_fI st_Mo_find (0, [a1, a2, a3], [], σ) = some (r, σ')) : Met l y_Mo_find w_Mo_find ({ frames := 0, cells := 0, slots := 0, locals := 0 } : Room) (va_Pc [.ref (ad 5), .int a1, .int a2, .int a3] (tq_B dC dI cI cL cZ tt (wo cI cL cZ ad σ) sz)) (va_Qi (fun (r' : Int32) (u : tq_S) => r' = r ∧ u = σ') (tq_E dC dI cI cL cZ (wo cI cL cZ ad) (va_A (wo cI cL cZ ad σ) sz)) (va_A (wo cI cL cZ ad σ) sz)) 0 0 (va_A (wo cI cL cZ ad σ) sz) := by
  obtain ⟨n0, h0⟩ := tq_fI_to hf
  refine Met.ofW (cc := prog_7_method_5_code) (maxL := 5) (ret := (some .int)) (by decide) rfl ?_
  intro p e s m args below meth c s₁ B hml hv
  obtain ⟨rfl, hsz, hP, hK, hD0, hZ, hN⟩ := hv
  have hx := B.exec
  have hb := B.bytes
  have hr := B.returns
  have hts : ∀ w ∈ tq_T, w.before _ s = true := fun w h => atoms_spec (ws := w_Mo_find) B.pre w (List.mem_cons_of_mem _ h)
  have hown : s.vm.findClass "TableauNodesModel" = some m.cls := findClass_of_methodNamed B.named
  have hlocks := B.notSynchronized
  subst hsz
  have hD := hD0.self (sz := s.heap.size)
  have hS : va_S (va_A (wo cI cL cZ ad σ) s.heap.size) s.heap s.heap [] := va_S.rf
  have hA : ∀ q : Nat, s.heap.size ≤ q → va_A (wo cI cL cZ ad σ) s.heap.size q := fun q h => Or.inr h
  generalize va_A (wo cI cL cZ ad σ) s.heap.size = A at hD hS hA hZ ⊢
  have hl := lv_entry ([.ref (ad 5), .int a1, .int a2, .int a3]) (n := 5) (Nat.le_of_ble_eq_true rfl)
  rw [lg_entry_eq]
  generalize (lg_sl ([.ref (ad 5), .int a1, .int a2, .int a3]) ++ List.replicate (5 - (lg_sl ([.ref (ad 5), .int a1, .int a2, .int a3])).length) Slot.unset).toArray = ls at hl ⊢
  have hl : lv_has ls 5 [(0, .ref (ad 5)), (1, .int a1), (2, .int a2), (3, .int a3)] := hl
  have key : ∀ n : Nat, (∀ {x1 x2 x3 : Int32} {σ : tq_S} {H : Heap} {locs : List Loc} {ls : Array Slot}, va_P (dC, dI) tq_cl (wo cI cL cZ ad σ) H → va_D A (wo cI cL cZ ad σ) → va_S A s.heap H locs → lv_has ls 5 [(0, .ref (ad 5)), (1, .int x1), (2, .int x2), (3, .int x3)] → tq_go st_Mo_find n (0, [x1, x2, x3], [], σ) = some (tq_rt, [r], [], σ') → W p l e (headSpec w_Mo_find ({ frames := 0, cells := 0, slots := 0, locals := 0 } : Room)).room s m ([.ref (ad 5), .int a1, .int a2, .int a3] : List Value).toArray below meth c H locs 0 0 (MQ below (va_Qi (fun (r' : Int32) (u : tq_S) => r' = r ∧ u = σ') (tq_E dC dI cI cL cZ (wo cI cL cZ ad) A) A) ([.ref (ad 5), .int a1, .int a2, .int a3] : List Value).toArray s 0 0 A) (F0 m 0 ls [])) ∧ (∀ {x1 x2 x3 x4 : Int32} {σ : tq_S} {H : Heap} {locs : List Loc} {ls : Array Slot}, va_P (dC, dI) tq_cl (wo cI cL cZ ad σ) H → va_D A (wo cI cL cZ ad σ) → va_S A s.heap H locs → lv_has ls 5 [(0, .ref (ad 5)), (1, .int x1), (2, .int x2), (3, .int x3), (4, .int x4)] → tq_go st_Mo_find n (3, [x1, x2, x3, x4], [], σ) = some (tq_rt, [r], [], σ') → W p l e (headSpec w_Mo_find ({ frames := 0, cells := 0, slots := 0, locals := 0 } : Room)).room s m ([.ref (ad 5), .int a1, .int a2, .int a3] : List Value).toArray below meth c H locs 0 0 (MQ below (va_Qi (fun (r' : Int32) (u : tq_S) => r' = r ∧ u = σ') (tq_E dC dI cI cL cZ (wo cI cL cZ ad) A) A) ([.ref (ad 5), .int a1, .int a2, .int a3] : List Value).toArray s 0 0 A) (F0 m 3 ls [])) := by
    intro n
    induction n with
    | zero => exact ⟨(fun _ _ _ _ h => by cases h), (fun _ _ _ _ h => by cases h)⟩
    | succ n ih =>
      refine ⟨?_, ?_⟩
      · intro x1 x2 x3 σ H locs ls hP hD hS hl h9
        obtain ⟨q9, hg, hn⟩ := tq_go_s h9 (show ¬ (0 : Nat) = tq_rt by decide)
        replace hg : bk_Mo_find_0 [x1, x2, x3] [] σ = some q9 := hg
        unfold bk_Mo_find_0 at hg
        refine lv_iconst (v := 0) hx hb d_Mo_find_0 (by decide) ?_
        refine lv_istore (lv' := [(4, .int 0), (0, .ref (ad 5)), (1, .int x1), (2, .int x2), (3, .int x3)]) hx hb d_Mo_find_1 hl (by decide) rfl (fun ls hl => ?_)
        exact ih.2 hP hD hS (lv_sub hl [1, 2, 3, 4, 0] rfl) (tq_gi hg hn)
      · intro x1 x2 x3 x4 σ H locs ls hP hD hS hl h9
        obtain ⟨q9, hg, hn⟩ := tq_go_s h9 (show ¬ (3 : Nat) = tq_rt by decide)
        replace hg : bk_Mo_find_3 [x1, x2, x3, x4] [] σ = some q9 := hg
        unfold bk_Mo_find_3 at hg
        refine lv_iload hx hb d_Mo_find_3 (lv_at hl 4 rfl) ?_
        refine lv_aload_n hx hb d_Mo_find_5 rfl (lv_at hl 0 rfl) ?_
        refine va_get (D := (dC, dI)) (ci := 5) (v := .int (σ.2.2 13)) (C := "TableauNodesModel") (T := F_Mo) (N := 25) hx hb hts in_Mo hown hK hP 5 rfl rfl 3 (by decide) (hts _ tw_602) (fun _ h9 => h9) rfl d_Mo_find_6 ?_
        refine lv_icmp_ge (tgt := 51) hx hb d_Mo_find_9 (by decide) (fun c1 => ?_) (fun c1 => ?_)
        · replace hg := tq_if_t c1 hg
          refine lv_iload hx hb d_Mo_find_51 (lv_at hl 4 rfl) ?_
          exact W.iret (v := x4) hx hb hr (fun t ht hW => ⟨⟨x4, σ, rfl, tq_grI hg hn, by rw [ht]; exact hP, va_K.moved hW.alike hK, hD⟩, hS.F ht⟩) hS.2.2 d_Mo_find_53
        · replace hg := tq_if_f c1 hg
          refine lv_aload_n hx hb d_Mo_find_12 rfl (lv_at hl 0 rfl) ?_
          refine va_get (D := (dC, dI)) (ci := 5) (v := .ref (ad 30)) (C := "TableauNodesModel") (T := F_Mo) (N := 25) hx hb hts in_Mo hown hK hP 5 rfl rfl 0 (by decide) (hts _ tw_599) (fun _ h9 => h9) rfl d_Mo_find_13 ?_
          refine lv_iload hx hb d_Mo_find_16 (lv_at hl 4 rfl) ?_
          obtain ⟨g2, hg⟩ := tq_gd_s hg
          refine va_iald hx hb hK hP 30 0 rfl rfl g2 d_Mo_find_18 ?_
          refine lv_iload_n hx hb d_Mo_find_19 rfl (lv_at hl 1 rfl) ?_
          refine lv_icmp_ne (tgt := 45) hx hb d_Mo_find_20 (by decide) (fun c3 => ?_) (fun c3 => ?_)
          · replace hg := tq_if_t c3 hg
            obtain ⟨v4, ev4, hg⟩ := tq_lj_s hg
            refine lv_iinc (v := v4) (lv' := [(4, .int v4), (0, .ref (ad 5)), (1, .int x1), (2, .int x2), (3, .int x3)]) hx hb d_Mo_find_45 hl (k := 4) rfl (by rw [ev4]; rfl) (by decide) rfl (fun ls hl => ?_)
            refine lv_goto (tgt := 3) hx hb d_Mo_find_48 (by decide) ?_
            exact ih.2 hP hD hS (lv_sub hl [1, 2, 3, 4, 0] rfl) (tq_gi hg hn)
          · replace hg := tq_if_n c3 hg
            refine lv_aload_n hx hb d_Mo_find_23 rfl (lv_at hl 0 rfl) ?_
            refine va_get (D := (dC, dI)) (ci := 5) (v := .ref (ad 31)) (C := "TableauNodesModel") (T := F_Mo) (N := 25) hx hb hts in_Mo hown hK hP 5 rfl rfl 1 (by decide) (hts _ tw_600) (fun _ h9 => h9) rfl d_Mo_find_24 ?_
            refine lv_iload hx hb d_Mo_find_27 (lv_at hl 4 rfl) ?_
            obtain ⟨g5, hg⟩ := tq_gd_s hg
            refine va_iald hx hb hK hP 31 0 rfl rfl g5 d_Mo_find_29 ?_
            refine lv_iload_n hx hb d_Mo_find_30 rfl (lv_at hl 2 rfl) ?_
            refine lv_icmp_ne (tgt := 45) hx hb d_Mo_find_31 (by decide) (fun c6 => ?_) (fun c6 => ?_)
            · replace hg := tq_if_t c6 hg
              obtain ⟨v7, ev7, hg⟩ := tq_lj_s hg
              refine lv_iinc (v := v7) (lv' := [(4, .int v7), (0, .ref (ad 5)), (1, .int x1), (2, .int x2), (3, .int x3)]) hx hb d_Mo_find_45 hl (k := 4) rfl (by rw [ev7]; rfl) (by decide) rfl (fun ls hl => ?_)
              refine lv_goto (tgt := 3) hx hb d_Mo_find_48 (by decide) ?_
              exact ih.2 hP hD hS (lv_sub hl [1, 2, 3, 4, 0] rfl) (tq_gi hg hn)
            · replace hg := tq_if_n c6 hg
              refine lv_aload_n hx hb d_Mo_find_34 rfl (lv_at hl 0 rfl) ?_
              refine va_get (D := (dC, dI)) (ci := 5) (v := .ref (ad 32)) (C := "TableauNodesModel") (T := F_Mo) (N := 25) hx hb hts in_Mo hown hK hP 5 rfl rfl 2 (by decide) (hts _ tw_601) (fun _ h9 => h9) rfl d_Mo_find_35 ?_
              refine lv_iload hx hb d_Mo_find_38 (lv_at hl 4 rfl) ?_
              obtain ⟨g8, hg⟩ := tq_gd_s hg
              refine va_iald hx hb hK hP 32 0 rfl rfl g8 d_Mo_find_40 ?_
              refine lv_iload_n hx hb d_Mo_find_41 rfl (lv_at hl 3 rfl) ?_
              refine lv_icmp_eq (tgt := 51) hx hb d_Mo_find_42 (by decide) (fun c9 => ?_) (fun c9 => ?_)
              · replace hg := tq_if_t c9 hg
                refine lv_iload hx hb d_Mo_find_51 (lv_at hl 4 rfl) ?_
                exact W.iret (v := x4) hx hb hr (fun t ht hW => ⟨⟨x4, σ, rfl, tq_grI hg hn, by rw [ht]; exact hP, va_K.moved hW.alike hK, hD⟩, hS.F ht⟩) hS.2.2 d_Mo_find_53
              · replace hg := tq_if_f c9 hg
                obtain ⟨v10, ev10, hg⟩ := tq_lj_s hg
                refine lv_iinc (v := v10) (lv' := [(4, .int v10), (0, .ref (ad 5)), (1, .int x1), (2, .int x2), (3, .int x3)]) hx hb d_Mo_find_45 hl (k := 4) rfl (by rw [ev10]; rfl) (by decide) rfl (fun ls hl => ?_)
                refine lv_goto (tgt := 3) hx hb d_Mo_find_48 (by decide) ?_
                exact ih.2 hP hD hS (lv_sub hl [1, 2, 3, 4, 0] rfl) (tq_gi hg hn)
  exact (key n0).1 hP hD hS hl h0
noncomputable def bk_Mo_make_0 : List Int32 → List Int64 → tq_S → Option tq_C
  | [x1, x2, x3], [], σ => tq_ob (tq_fI st_Mo_find (0, [x1, x2, x3], [], σ)) (fun r2 σ3 => if (σ3.2.2 13) ≤ r2 then if x1 = 2 then some (32, [x1, x2, x3, r2], [], σ3) else if ¬ x1 = 6 then if (σ3.2.2 13) = 80 then some (tq_rt, [(-3)], [], σ3) else some (65, [x1, x2, x3, r2, 0], [], σ3) else some (32, [x1, x2, x3, r2], [], σ3) else some (tq_rt, [r2], [], σ3))
  | _, _, _ => none
noncomputable def bk_Mo_make_32 : List Int32 → List Int64 → tq_S → Option tq_C
  | [x1, x2, x3, x4], [], σ => if (σ.2.2 13) = 80 then some (tq_rt, [(-3)], [], σ) else if ¬ (σ.2.2 14) = 10 then some (65, [x1, x2, x3, x4, 1], [], σ) else some (tq_rt, [(-3)], [], σ)
  | _, _, _ => none
noncomputable def bk_Mo_make_65 : List Int32 → List Int64 → tq_S → Option tq_C
  | [x1, x2, x3, x4, x5], [], σ => tq_gd x4 80 (tq_lj (iput σ 17 x4.toNatClampNeg x1) (fun σ13 => tq_gd x4 80 (tq_lj (iput σ13 18 x4.toNatClampNeg x2) (fun σ15 => tq_gd x4 80 (tq_lj (iput σ15 19 x4.toNatClampNeg x3) (fun σ17 => if x5 = 0 then some (115, [x4], [], σ17) else tq_gd (σ17.2.2 14) 10 (tq_lj (iput σ17 20 (σ17.2.2 14).toNatClampNeg x4) (fun σ20 => tq_lj (fput σ20 14 ((σ20.2.2 14) + 1)) (fun σ21 => some (115, [x4], [], σ21))))))))))
  | _, _, _ => none
noncomputable def bk_Mo_make_115 : List Int32 → List Int64 → tq_S → Option tq_C
  | [x4], [], σ => tq_lj (fput σ 13 ((σ.2.2 13) + 1)) (fun σ22 => tq_lj (fput σ22 18 0) (fun σ23 => some (tq_rt, [x4], [], σ23)))
  | _, _, _ => none
noncomputable def st_Mo_make (c : tq_C) : Option tq_C := if c.1 = 0 then bk_Mo_make_0 c.2.1 c.2.2.1 c.2.2.2 else if c.1 = 32 then bk_Mo_make_32 c.2.1 c.2.2.1 c.2.2.2 else if c.1 = 65 then bk_Mo_make_65 c.2.1 c.2.2.1 c.2.2.2 else if c.1 = 115 then bk_Mo_make_115 c.2.1 c.2.2.1 c.2.2.2 else none
set_option maxHeartbeats 40000000 in
set_option maxRecDepth 100000 in
theorem c_Mo_make (l : Launch) (dC : Nat → ClassId) (dI : Nat → Nat → Nat) (cI cL cZ : ClassId) (ad : Nat → Nat) (tt : Nat) (sz : Nat) (σ : tq_S) (a1 : Int32) (a2 : Int32) (a3 : Int32) (r : Int32) (σ' : tq_S) (hf : tq_fI st_Mo_make (0, [a1, a2, a3], [], σ) = some (r, σ')) : Met l y_Mo_make w_Mo_make ({ frames := 1, cells := 0, slots := 0, locals := 24 } : Room) (va_Pc [.ref (ad 5), .int a1, .int a2, .int a3] (tq_B dC dI cI cL cZ tt (wo cI cL cZ ad σ) sz)) (va_Qi (fun (r' : Int32) (u : tq_S) => r' = r ∧ u = σ') (tq_E dC dI cI cL cZ (wo cI cL cZ ad) (va_A (wo cI cL cZ ad σ) sz)) (va_A (wo cI cL cZ ad σ) sz)) 0 0 (va_A (wo cI cL cZ ad σ) sz) := by
  obtain ⟨n0, h0⟩ := tq_fI_to hf
  refine Met.ofW (cc := prog_7_method_6_code) (maxL := 6) (ret := (some .int)) (by decide) rfl ?_
  intro p e s m args below meth c s₁ B hml hv
  obtain ⟨rfl, hsz, hP, hK, hD0, hZ, hN⟩ := hv
  have hx := B.exec
  have hb := B.bytes
  have hr := B.returns
  have hts : ∀ w ∈ tq_T, w.before _ s = true := fun w h => atoms_spec (ws := w_Mo_make) B.pre w (List.mem_cons_of_mem _ h)
  have hown : s.vm.findClass "TableauNodesModel" = some m.cls := findClass_of_methodNamed B.named
  have hlocks := B.notSynchronized
  subst hsz
  have hD := hD0.self (sz := s.heap.size)
  have hS : va_S (va_A (wo cI cL cZ ad σ) s.heap.size) s.heap s.heap [] := va_S.rf
  have hA : ∀ q : Nat, s.heap.size ≤ q → va_A (wo cI cL cZ ad σ) s.heap.size q := fun q h => Or.inr h
  generalize va_A (wo cI cL cZ ad σ) s.heap.size = A at hD hS hA hZ ⊢
  have hl := lv_entry ([.ref (ad 5), .int a1, .int a2, .int a3]) (n := 6) (Nat.le_of_ble_eq_true rfl)
  rw [lg_entry_eq]
  generalize (lg_sl ([.ref (ad 5), .int a1, .int a2, .int a3]) ++ List.replicate (6 - (lg_sl ([.ref (ad 5), .int a1, .int a2, .int a3])).length) Slot.unset).toArray = ls at hl ⊢
  have hl : lv_has ls 6 [(0, .ref (ad 5)), (1, .int a1), (2, .int a2), (3, .int a3)] := hl
  have key : ∀ n : Nat, (∀ {x1 x2 x3 : Int32} {σ : tq_S} {H : Heap} {locs : List Loc} {ls : Array Slot}, va_P (dC, dI) tq_cl (wo cI cL cZ ad σ) H → va_D A (wo cI cL cZ ad σ) → va_S A s.heap H locs → lv_has ls 6 [(0, .ref (ad 5)), (1, .int x1), (2, .int x2), (3, .int x3)] → tq_go st_Mo_make n (0, [x1, x2, x3], [], σ) = some (tq_rt, [r], [], σ') → W p l e (headSpec w_Mo_make ({ frames := 1, cells := 0, slots := 0, locals := 24 } : Room)).room s m ([.ref (ad 5), .int a1, .int a2, .int a3] : List Value).toArray below meth c H locs 0 0 (MQ below (va_Qi (fun (r' : Int32) (u : tq_S) => r' = r ∧ u = σ') (tq_E dC dI cI cL cZ (wo cI cL cZ ad) A) A) ([.ref (ad 5), .int a1, .int a2, .int a3] : List Value).toArray s 0 0 A) (F0 m 0 ls [])) ∧ (∀ {x1 x2 x3 x4 : Int32} {σ : tq_S} {H : Heap} {locs : List Loc} {ls : Array Slot}, va_P (dC, dI) tq_cl (wo cI cL cZ ad σ) H → va_D A (wo cI cL cZ ad σ) → va_S A s.heap H locs → lv_has ls 6 [(0, .ref (ad 5)), (1, .int x1), (2, .int x2), (3, .int x3), (4, .int x4)] → tq_go st_Mo_make n (32, [x1, x2, x3, x4], [], σ) = some (tq_rt, [r], [], σ') → W p l e (headSpec w_Mo_make ({ frames := 1, cells := 0, slots := 0, locals := 24 } : Room)).room s m ([.ref (ad 5), .int a1, .int a2, .int a3] : List Value).toArray below meth c H locs 0 0 (MQ below (va_Qi (fun (r' : Int32) (u : tq_S) => r' = r ∧ u = σ') (tq_E dC dI cI cL cZ (wo cI cL cZ ad) A) A) ([.ref (ad 5), .int a1, .int a2, .int a3] : List Value).toArray s 0 0 A) (F0 m 32 ls [])) ∧ (∀ {x1 x2 x3 x4 x5 : Int32} {σ : tq_S} {H : Heap} {locs : List Loc} {ls : Array Slot}, va_P (dC, dI) tq_cl (wo cI cL cZ ad σ) H → va_D A (wo cI cL cZ ad σ) → va_S A s.heap H locs → lv_has ls 6 [(0, .ref (ad 5)), (1, .int x1), (2, .int x2), (3, .int x3), (4, .int x4), (5, .int x5)] → tq_go st_Mo_make n (65, [x1, x2, x3, x4, x5], [], σ) = some (tq_rt, [r], [], σ') → W p l e (headSpec w_Mo_make ({ frames := 1, cells := 0, slots := 0, locals := 24 } : Room)).room s m ([.ref (ad 5), .int a1, .int a2, .int a3] : List Value).toArray below meth c H locs 0 0 (MQ below (va_Qi (fun (r' : Int32) (u : tq_S) => r' = r ∧ u = σ') (tq_E dC dI cI cL cZ (wo cI cL cZ ad) A) A) ([.ref (ad 5), .int a1, .int a2, .int a3] : List Value).toArray s 0 0 A) (F0 m 65 ls [])) ∧ (∀ {x4 : Int32} {σ : tq_S} {H : Heap} {locs : List Loc} {ls : Array Slot}, va_P (dC, dI) tq_cl (wo cI cL cZ ad σ) H → va_D A (wo cI cL cZ ad σ) → va_S A s.heap H locs → lv_has ls 6 [(0, .ref (ad 5)), (4, .int x4)] → tq_go st_Mo_make n (115, [x4], [], σ) = some (tq_rt, [r], [], σ') → W p l e (headSpec w_Mo_make ({ frames := 1, cells := 0, slots := 0, locals := 24 } : Room)).room s m ([.ref (ad 5), .int a1, .int a2, .int a3] : List Value).toArray below meth c H locs 0 0 (MQ below (va_Qi (fun (r' : Int32) (u : tq_S) => r' = r ∧ u = σ') (tq_E dC dI cI cL cZ (wo cI cL cZ ad) A) A) ([.ref (ad 5), .int a1, .int a2, .int a3] : List Value).toArray s 0 0 A) (F0 m 115 ls [])) := by
    intro n
    induction n with
    | zero => exact ⟨(fun _ _ _ _ h => by cases h), (fun _ _ _ _ h => by cases h), (fun _ _ _ _ h => by cases h), (fun _ _ _ _ h => by cases h)⟩
    | succ n ih =>
      refine ⟨?_, ?_, ?_, ?_⟩
      · intro x1 x2 x3 σ H locs ls hP hD hS hl h9
        obtain ⟨q9, hg, hn⟩ := tq_go_s h9 (show ¬ (0 : Nat) = tq_rt by decide)
        replace hg : bk_Mo_make_0 [x1, x2, x3] [] σ = some q9 := hg
        unfold bk_Mo_make_0 at hg
        refine lv_aload_n hx hb d_Mo_make_0 rfl (lv_at hl 0 rfl) ?_
        refine lv_iload_n hx hb d_Mo_make_1 rfl (lv_at hl 1 rfl) ?_
        refine lv_iload_n hx hb d_Mo_make_2 rfl (lv_at hl 2 rfl) ?_
        refine lv_iload_n hx hb d_Mo_make_3 rfl (lv_at hl 3 rfl) ?_
        obtain ⟨r2, σ3, f1, hg⟩ := tq_ob_s hg
        refine tq_aI (va_runV (As := [.int x1, .int x2, .int x3]) (rest := []) ⟨hx, hb, hml, hown, hts⟩ (c_Mo_find l dC dI cI cL cZ ad tt H.size σ x1 x2 x3  r2 σ3 f1) (cwV 3 hts (tq_gV tw_684 tw_686 ts_33 tw_6 tw_687) rfl rfl rfl (by decide +kernel) ⟨Nat.le_of_ble_eq_true rfl, Nat.le_of_ble_eq_true rfl⟩) ⟨tq_bl, va_recv hK hP (ci := 5) (q0 := 5) rfl rfl, (tq_pr hP hK hD hS hA hZ hN)⟩ rfl rfl hl.1 rfl (lv_room (Nat.le_of_ble_eq_true rfl)) d_Mo_make_4 ⟨Nat.zero_le _, Nat.zero_le _⟩) hD hS hA (fun H locs hP hD hS => ?_)
        refine lv_istore (lv' := [(4, .int r2), (0, .ref (ad 5)), (1, .int x1), (2, .int x2), (3, .int x3)]) hx hb d_Mo_make_7 hl (by decide) rfl (fun ls hl => ?_)
        refine lv_iload hx hb d_Mo_make_9 (lv_at hl 0 rfl) ?_
        refine lv_aload_n hx hb d_Mo_make_11 rfl (lv_at hl 1 rfl) ?_
        refine va_get (D := (dC, dI)) (ci := 5) (v := .int (σ3.2.2 13)) (C := "TableauNodesModel") (T := F_Mo) (N := 25) hx hb hts in_Mo hown hK hP 5 rfl rfl 3 (by decide) (hts _ tw_602) (fun _ h9 => h9) rfl d_Mo_make_12 ?_
        refine lv_icmp_ge (tgt := 21) hx hb d_Mo_make_15 (by decide) (fun c4 => ?_) (fun c4 => ?_)
        · replace hg := tq_if_t c4 hg
          refine lv_iload_n hx hb d_Mo_make_21 rfl (lv_at hl 2 rfl) ?_
          refine lv_iconst (v := 2) hx hb d_Mo_make_22 (by decide) ?_
          refine lv_icmp_eq (tgt := 32) hx hb d_Mo_make_23 (by decide) (fun c5 => ?_) (fun c5 => ?_)
          · replace hg := tq_if_t c5 hg
            exact ih.2.1 hP hD hS (lv_sub hl [1, 2, 3, 4, 0] rfl) (tq_gi hg hn)
          · replace hg := tq_if_f c5 hg
            refine lv_iload_n hx hb d_Mo_make_26 rfl (lv_at hl 2 rfl) ?_
            refine lv_bipush (v := 6) hx hb d_Mo_make_27 (by decide) ?_
            refine lv_icmp_ne (tgt := 36) hx hb d_Mo_make_29 (by decide) (fun c6 => ?_) (fun c6 => ?_)
            · replace hg := tq_if_t c6 hg
              refine lv_iconst (v := 0) hx hb d_Mo_make_36 (by decide) ?_
              refine lv_istore (lv' := [(5, .int 0), (4, .int r2), (0, .ref (ad 5)), (1, .int x1), (2, .int x2), (3, .int x3)]) hx hb d_Mo_make_37 hl (by decide) rfl (fun ls hl => ?_)
              refine lv_aload_n hx hb d_Mo_make_39 rfl (lv_at hl 2 rfl) ?_
              refine va_get (D := (dC, dI)) (ci := 5) (v := .int (σ3.2.2 13)) (C := "TableauNodesModel") (T := F_Mo) (N := 25) hx hb hts in_Mo hown hK hP 5 rfl rfl 3 (by decide) (hts _ tw_602) (fun _ h9 => h9) rfl d_Mo_make_40 ?_
              refine lv_bipush (v := 80) hx hb d_Mo_make_43 (by decide) ?_
              refine lv_icmp_eq (tgt := 62) hx hb d_Mo_make_45 (by decide) (fun c7 => ?_) (fun c7 => ?_)
              · replace hg := tq_if_t c7 hg
                refine lv_bipush (v := (-3)) hx hb d_Mo_make_62 (by decide) ?_
                exact W.iret (v := (-3)) hx hb hr (fun t ht hW => ⟨⟨(-3), σ3, rfl, tq_grI hg hn, by rw [ht]; exact hP, va_K.moved hW.alike hK, hD⟩, hS.F ht⟩) hS.2.2 d_Mo_make_64
              · replace hg := tq_if_f c7 hg
                refine lv_iload hx hb d_Mo_make_48 (lv_at hl 0 rfl) ?_
                refine lv_if_eq (tgt := 65) hx hb d_Mo_make_50 (by decide) (fun _ => ?_) (fun c => False.elim (by revert c; decide))
                exact ih.2.2.1 hP hD hS (lv_sub hl [2, 3, 4, 5, 1, 0] rfl) (tq_gi hg hn)
            · replace hg := tq_if_n c6 hg
              exact ih.2.1 hP hD hS (lv_sub hl [1, 2, 3, 4, 0] rfl) (tq_gi hg hn)
        · replace hg := tq_if_f c4 hg
          refine lv_iload hx hb d_Mo_make_18 (lv_at hl 0 rfl) ?_
          exact W.iret (v := r2) hx hb hr (fun t ht hW => ⟨⟨r2, σ3, rfl, tq_grI hg hn, by rw [ht]; exact hP, va_K.moved hW.alike hK, hD⟩, hS.F ht⟩) hS.2.2 d_Mo_make_20
      · intro x1 x2 x3 x4 σ H locs ls hP hD hS hl h9
        obtain ⟨q9, hg, hn⟩ := tq_go_s h9 (show ¬ (32 : Nat) = tq_rt by decide)
        replace hg : bk_Mo_make_32 [x1, x2, x3, x4] [] σ = some q9 := hg
        unfold bk_Mo_make_32 at hg
        refine lv_iconst (v := 1) hx hb d_Mo_make_32 (by decide) ?_
        refine lv_goto (tgt := 37) hx hb d_Mo_make_33 (by decide) ?_
        refine lv_istore (lv' := [(5, .int 1), (0, .ref (ad 5)), (1, .int x1), (2, .int x2), (3, .int x3), (4, .int x4)]) hx hb d_Mo_make_37 hl (by decide) rfl (fun ls hl => ?_)
        refine lv_aload_n hx hb d_Mo_make_39 rfl (lv_at hl 1 rfl) ?_
        refine va_get (D := (dC, dI)) (ci := 5) (v := .int (σ.2.2 13)) (C := "TableauNodesModel") (T := F_Mo) (N := 25) hx hb hts in_Mo hown hK hP 5 rfl rfl 3 (by decide) (hts _ tw_602) (fun _ h9 => h9) rfl d_Mo_make_40 ?_
        refine lv_bipush (v := 80) hx hb d_Mo_make_43 (by decide) ?_
        refine lv_icmp_eq (tgt := 62) hx hb d_Mo_make_45 (by decide) (fun c9 => ?_) (fun c9 => ?_)
        · replace hg := tq_if_t c9 hg
          refine lv_bipush (v := (-3)) hx hb d_Mo_make_62 (by decide) ?_
          exact W.iret (v := (-3)) hx hb hr (fun t ht hW => ⟨⟨(-3), σ, rfl, tq_grI hg hn, by rw [ht]; exact hP, va_K.moved hW.alike hK, hD⟩, hS.F ht⟩) hS.2.2 d_Mo_make_64
        · replace hg := tq_if_f c9 hg
          refine lv_iload hx hb d_Mo_make_48 (lv_at hl 0 rfl) ?_
          refine lv_if_eq (tgt := 65) hx hb d_Mo_make_50 (by decide) (fun c => False.elim (by revert c; decide)) (fun _ => ?_)
          refine lv_aload_n hx hb d_Mo_make_53 rfl (lv_at hl 1 rfl) ?_
          refine va_get (D := (dC, dI)) (ci := 5) (v := .int (σ.2.2 14)) (C := "TableauNodesModel") (T := F_Mo) (N := 25) hx hb hts in_Mo hown hK hP 5 rfl rfl 5 (by decide) (hts _ tw_604) (fun _ h9 => h9) rfl d_Mo_make_54 ?_
          refine lv_bipush (v := 10) hx hb d_Mo_make_57 (by decide) ?_
          refine lv_icmp_ne (tgt := 65) hx hb d_Mo_make_59 (by decide) (fun c11 => ?_) (fun c11 => ?_)
          · replace hg := tq_if_t c11 hg
            exact ih.2.2.1 hP hD hS (lv_sub hl [1, 2, 3, 4, 5, 0] rfl) (tq_gi hg hn)
          · replace hg := tq_if_n c11 hg
            refine lv_bipush (v := (-3)) hx hb d_Mo_make_62 (by decide) ?_
            exact W.iret (v := (-3)) hx hb hr (fun t ht hW => ⟨⟨(-3), σ, rfl, tq_grI hg hn, by rw [ht]; exact hP, va_K.moved hW.alike hK, hD⟩, hS.F ht⟩) hS.2.2 d_Mo_make_64
      · intro x1 x2 x3 x4 x5 σ H locs ls hP hD hS hl h9
        obtain ⟨q9, hg, hn⟩ := tq_go_s h9 (show ¬ (65 : Nat) = tq_rt by decide)
        replace hg : bk_Mo_make_65 [x1, x2, x3, x4, x5] [] σ = some q9 := hg
        unfold bk_Mo_make_65 at hg
        refine lv_aload_n hx hb d_Mo_make_65 rfl (lv_at hl 0 rfl) ?_
        refine va_get (D := (dC, dI)) (ci := 5) (v := .ref (ad 30)) (C := "TableauNodesModel") (T := F_Mo) (N := 25) hx hb hts in_Mo hown hK hP 5 rfl rfl 0 (by decide) (hts _ tw_599) (fun _ h9 => h9) rfl d_Mo_make_66 ?_
        refine lv_iload hx hb d_Mo_make_69 (lv_at hl 4 rfl) ?_
        refine lv_iload_n hx hb d_Mo_make_71 rfl (lv_at hl 1 rfl) ?_
        obtain ⟨g12, hg⟩ := tq_gd_s hg
        refine va_iast hx hb hK hP hD hS 30 0 rfl rfl g12 d_Mo_make_72 (fun H locs hP hD hS => ?_)
        obtain ⟨σ13, eσ13, hg⟩ := tq_lj_s hg
        replace hP : va_P (dC, dI) tq_cl (wo cI cL cZ ad σ13) H := by rw [eσ13, ← ws_i17]; exact hP
        replace hD : va_D A (wo cI cL cZ ad σ13) := by rw [eσ13, ← ws_i17]; exact hD
        refine lv_aload_n hx hb d_Mo_make_73 rfl (lv_at hl 0 rfl) ?_
        refine va_get (D := (dC, dI)) (ci := 5) (v := .ref (ad 31)) (C := "TableauNodesModel") (T := F_Mo) (N := 25) hx hb hts in_Mo hown hK hP 5 rfl rfl 1 (by decide) (hts _ tw_600) (fun _ h9 => h9) rfl d_Mo_make_74 ?_
        refine lv_iload hx hb d_Mo_make_77 (lv_at hl 4 rfl) ?_
        refine lv_iload_n hx hb d_Mo_make_79 rfl (lv_at hl 2 rfl) ?_
        obtain ⟨g14, hg⟩ := tq_gd_s hg
        refine va_iast hx hb hK hP hD hS 31 0 rfl rfl g14 d_Mo_make_80 (fun H locs hP hD hS => ?_)
        obtain ⟨σ15, eσ15, hg⟩ := tq_lj_s hg
        replace hP : va_P (dC, dI) tq_cl (wo cI cL cZ ad σ15) H := by rw [eσ15, ← ws_i18]; exact hP
        replace hD : va_D A (wo cI cL cZ ad σ15) := by rw [eσ15, ← ws_i18]; exact hD
        refine lv_aload_n hx hb d_Mo_make_81 rfl (lv_at hl 0 rfl) ?_
        refine va_get (D := (dC, dI)) (ci := 5) (v := .ref (ad 32)) (C := "TableauNodesModel") (T := F_Mo) (N := 25) hx hb hts in_Mo hown hK hP 5 rfl rfl 2 (by decide) (hts _ tw_601) (fun _ h9 => h9) rfl d_Mo_make_82 ?_
        refine lv_iload hx hb d_Mo_make_85 (lv_at hl 4 rfl) ?_
        refine lv_iload_n hx hb d_Mo_make_87 rfl (lv_at hl 3 rfl) ?_
        obtain ⟨g16, hg⟩ := tq_gd_s hg
        refine va_iast hx hb hK hP hD hS 32 0 rfl rfl g16 d_Mo_make_88 (fun H locs hP hD hS => ?_)
        obtain ⟨σ17, eσ17, hg⟩ := tq_lj_s hg
        replace hP : va_P (dC, dI) tq_cl (wo cI cL cZ ad σ17) H := by rw [eσ17, ← ws_i19]; exact hP
        replace hD : va_D A (wo cI cL cZ ad σ17) := by rw [eσ17, ← ws_i19]; exact hD
        refine lv_iload hx hb d_Mo_make_89 (lv_at hl 5 rfl) ?_
        refine lv_if_eq (tgt := 115) hx hb d_Mo_make_91 (by decide) (fun c18 => ?_) (fun c18 => ?_)
        · replace hg := tq_if_t c18 hg
          exact ih.2.2.2 hP hD hS (lv_sub hl [0, 4] rfl) (tq_gi hg hn)
        · replace hg := tq_if_f c18 hg
          refine lv_aload_n hx hb d_Mo_make_94 rfl (lv_at hl 0 rfl) ?_
          refine va_get (D := (dC, dI)) (ci := 5) (v := .ref (ad 33)) (C := "TableauNodesModel") (T := F_Mo) (N := 25) hx hb hts in_Mo hown hK hP 5 rfl rfl 4 (by decide) (hts _ tw_603) (fun _ h9 => h9) rfl d_Mo_make_95 ?_
          refine lv_aload_n hx hb d_Mo_make_98 rfl (lv_at hl 0 rfl) ?_
          refine va_get (D := (dC, dI)) (ci := 5) (v := .int (σ17.2.2 14)) (C := "TableauNodesModel") (T := F_Mo) (N := 25) hx hb hts in_Mo hown hK hP 5 rfl rfl 5 (by decide) (hts _ tw_604) (fun _ h9 => h9) rfl d_Mo_make_99 ?_
          refine lv_iload hx hb d_Mo_make_102 (lv_at hl 4 rfl) ?_
          obtain ⟨g19, hg⟩ := tq_gd_s hg
          refine va_iast hx hb hK hP hD hS 33 0 rfl rfl g19 d_Mo_make_104 (fun H locs hP hD hS => ?_)
          obtain ⟨σ20, eσ20, hg⟩ := tq_lj_s hg
          replace hP : va_P (dC, dI) tq_cl (wo cI cL cZ ad σ20) H := by rw [eσ20, ← ws_i20]; exact hP
          replace hD : va_D A (wo cI cL cZ ad σ20) := by rw [eσ20, ← ws_i20]; exact hD
          refine lv_aload_n hx hb d_Mo_make_105 rfl (lv_at hl 0 rfl) ?_
          refine lv_dup hx hb d_Mo_make_106 rfl ?_
          refine va_get (D := (dC, dI)) (ci := 5) (v := .int (σ20.2.2 14)) (C := "TableauNodesModel") (T := F_Mo) (N := 25) hx hb hts in_Mo hown hK hP 5 rfl rfl 5 (by decide) (hts _ tw_604) (fun _ h9 => h9) rfl d_Mo_make_107 ?_
          refine lv_iconst (v := 1) hx hb d_Mo_make_110 (by decide) ?_
          refine lv_iadd hx hb d_Mo_make_111 ?_
          refine va_put (D := (dC, dI)) (ci := 5) (v := .int ((σ20.2.2 14) + 1)) (ty := .int) (C := "TableauNodesModel") (T := F_Mo) (N := 25) hx hb hts in_Mo ty_Mo tk_Mo nm_Mo hown hK hP hD hS 5 rfl rfl 5 (by decide) (hts _ tw_604) (fun _ h9 => h9) rfl (by decide +kernel) rfl rfl (Nat.le_of_ble_eq_true rfl) d_Mo_make_112 (fun H locs hP hD hS => ?_)
          obtain ⟨σ21, eσ21, hg⟩ := tq_lj_s hg
          replace hP : va_P (dC, dI) tq_cl (wo cI cL cZ ad σ21) H := by rw [eσ21, ← ws_f14]; exact hP
          replace hD : va_D A (wo cI cL cZ ad σ21) := by rw [eσ21, ← ws_f14]; exact hD
          exact ih.2.2.2 hP hD hS (lv_sub hl [0, 4] rfl) (tq_gi hg hn)
      · intro x4 σ H locs ls hP hD hS hl h9
        obtain ⟨q9, hg, hn⟩ := tq_go_s h9 (show ¬ (115 : Nat) = tq_rt by decide)
        replace hg : bk_Mo_make_115 [x4] [] σ = some q9 := hg
        unfold bk_Mo_make_115 at hg
        refine lv_aload_n hx hb d_Mo_make_115 rfl (lv_at hl 0 rfl) ?_
        refine lv_dup hx hb d_Mo_make_116 rfl ?_
        refine va_get (D := (dC, dI)) (ci := 5) (v := .int (σ.2.2 13)) (C := "TableauNodesModel") (T := F_Mo) (N := 25) hx hb hts in_Mo hown hK hP 5 rfl rfl 3 (by decide) (hts _ tw_602) (fun _ h9 => h9) rfl d_Mo_make_117 ?_
        refine lv_iconst (v := 1) hx hb d_Mo_make_120 (by decide) ?_
        refine lv_iadd hx hb d_Mo_make_121 ?_
        refine va_put (D := (dC, dI)) (ci := 5) (v := .int ((σ.2.2 13) + 1)) (ty := .int) (C := "TableauNodesModel") (T := F_Mo) (N := 25) hx hb hts in_Mo ty_Mo tk_Mo nm_Mo hown hK hP hD hS 5 rfl rfl 3 (by decide) (hts _ tw_602) (fun _ h9 => h9) rfl (by decide +kernel) rfl rfl (Nat.le_of_ble_eq_true rfl) d_Mo_make_122 (fun H locs hP hD hS => ?_)
        obtain ⟨σ22, eσ22, hg⟩ := tq_lj_s hg
        replace hP : va_P (dC, dI) tq_cl (wo cI cL cZ ad σ22) H := by rw [eσ22, ← ws_f13]; exact hP
        replace hD : va_D A (wo cI cL cZ ad σ22) := by rw [eσ22, ← ws_f13]; exact hD
        refine lv_aload_n hx hb d_Mo_make_125 rfl (lv_at hl 0 rfl) ?_
        refine lv_iconst (v := 0) hx hb d_Mo_make_126 (by decide) ?_
        refine va_put (D := (dC, dI)) (ci := 5) (v := .int 0) (ty := .boolean) (C := "TableauNodesModel") (T := F_Mo) (N := 25) hx hb hts in_Mo ty_Mo tk_Mo nm_Mo hown hK hP hD hS 5 rfl rfl 17 (by decide) (hts _ tw_616) (fun _ h9 => h9) rfl (by decide +kernel) rfl rfl (Nat.le_of_ble_eq_true rfl) d_Mo_make_127 (fun H locs hP hD hS => ?_)
        obtain ⟨σ23, eσ23, hg⟩ := tq_lj_s hg
        replace hP : va_P (dC, dI) tq_cl (wo cI cL cZ ad σ23) H := by rw [eσ23, ← ws_f18]; exact hP
        replace hD : va_D A (wo cI cL cZ ad σ23) := by rw [eσ23, ← ws_f18]; exact hD
        refine lv_iload hx hb d_Mo_make_130 (lv_at hl 1 rfl) ?_
        exact W.iret (v := x4) hx hb hr (fun t ht hW => ⟨⟨x4, σ23, rfl, tq_grI hg hn, by rw [ht]; exact hP, va_K.moved hW.alike hK, hD⟩, hS.F ht⟩) hS.2.2 d_Mo_make_132
  exact (key n0).1 hP hD hS hl h0
noncomputable def bk_Mo_class0_0 : List Int32 → List Int64 → tq_S → Option tq_C
  | [x1], [], σ => if x1 < 0 then some (tq_rt, [(-1)], [], σ) else if x1 ≤ 9 then tq_ob (tq_fI st_Mo_make (0, [2, x1, 0], [], σ)) (fun r4 σ5 => some (tq_rt, [r4], [], σ5)) else some (tq_rt, [(-1)], [], σ)
  | _, _, _ => none
noncomputable def st_Mo_class0 (c : tq_C) : Option tq_C := if c.1 = 0 then bk_Mo_class0_0 c.2.1 c.2.2.1 c.2.2.2 else none
set_option maxHeartbeats 40000000 in
set_option maxRecDepth 100000 in
theorem c_Mo_class0 (l : Launch) (dC : Nat → ClassId) (dI : Nat → Nat → Nat) (cI cL cZ : ClassId) (ad : Nat → Nat) (tt : Nat) (sz : Nat) (σ : tq_S) (a1 : Int32) (r : Int32) (σ' : tq_S) (hf : tq_fI st_Mo_class0 (0, [a1], [], σ) = some (r, σ')) : Met l y_Mo_class0 w_Mo_class0 ({ frames := 2, cells := 0, slots := 0, locals := 49 } : Room) (va_Pc [.ref (ad 5), .int a1] (tq_B dC dI cI cL cZ tt (wo cI cL cZ ad σ) sz)) (va_Qi (fun (r' : Int32) (u : tq_S) => r' = r ∧ u = σ') (tq_E dC dI cI cL cZ (wo cI cL cZ ad) (va_A (wo cI cL cZ ad σ) sz)) (va_A (wo cI cL cZ ad σ) sz)) 0 0 (va_A (wo cI cL cZ ad σ) sz) := by
  obtain ⟨n0, h0⟩ := tq_fI_to hf
  refine Met.ofW (cc := prog_7_method_7_code) (maxL := 2) (ret := (some .int)) (by decide) rfl ?_
  intro p e s m args below meth c s₁ B hml hv
  obtain ⟨rfl, hsz, hP, hK, hD0, hZ, hN⟩ := hv
  have hx := B.exec
  have hb := B.bytes
  have hr := B.returns
  have hts : ∀ w ∈ tq_T, w.before _ s = true := fun w h => atoms_spec (ws := w_Mo_class0) B.pre w (List.mem_cons_of_mem _ h)
  have hown : s.vm.findClass "TableauNodesModel" = some m.cls := findClass_of_methodNamed B.named
  have hlocks := B.notSynchronized
  subst hsz
  have hD := hD0.self (sz := s.heap.size)
  have hS : va_S (va_A (wo cI cL cZ ad σ) s.heap.size) s.heap s.heap [] := va_S.rf
  have hA : ∀ q : Nat, s.heap.size ≤ q → va_A (wo cI cL cZ ad σ) s.heap.size q := fun q h => Or.inr h
  generalize va_A (wo cI cL cZ ad σ) s.heap.size = A at hD hS hA hZ ⊢
  have hl := lv_entry ([.ref (ad 5), .int a1]) (n := 2) (Nat.le_of_ble_eq_true rfl)
  rw [lg_entry_eq]
  generalize (lg_sl ([.ref (ad 5), .int a1]) ++ List.replicate (2 - (lg_sl ([.ref (ad 5), .int a1])).length) Slot.unset).toArray = ls at hl ⊢
  have hl : lv_has ls 2 [(0, .ref (ad 5)), (1, .int a1)] := hl
  have key : ∀ n : Nat, (∀ {x1 : Int32} {σ : tq_S} {H : Heap} {locs : List Loc} {ls : Array Slot}, va_P (dC, dI) tq_cl (wo cI cL cZ ad σ) H → va_D A (wo cI cL cZ ad σ) → va_S A s.heap H locs → lv_has ls 2 [(0, .ref (ad 5)), (1, .int x1)] → tq_go st_Mo_class0 n (0, [x1], [], σ) = some (tq_rt, [r], [], σ') → W p l e (headSpec w_Mo_class0 ({ frames := 2, cells := 0, slots := 0, locals := 49 } : Room)).room s m ([.ref (ad 5), .int a1] : List Value).toArray below meth c H locs 0 0 (MQ below (va_Qi (fun (r' : Int32) (u : tq_S) => r' = r ∧ u = σ') (tq_E dC dI cI cL cZ (wo cI cL cZ ad) A) A) ([.ref (ad 5), .int a1] : List Value).toArray s 0 0 A) (F0 m 0 ls [])) := by
    intro n
    induction n with
    | zero => exact fun _ _ _ _ h => by cases h
    | succ n ih =>
      intro x1 σ H locs ls hP hD hS hl h9
      obtain ⟨q9, hg, hn⟩ := tq_go_s h9 (show ¬ (0 : Nat) = tq_rt by decide)
      replace hg : bk_Mo_class0_0 [x1] [] σ = some q9 := hg
      unfold bk_Mo_class0_0 at hg
      refine lv_iload_n hx hb d_Mo_class0_0 rfl (lv_at hl 1 rfl) ?_
      refine lv_if_lt (tgt := 10) hx hb d_Mo_class0_1 (by decide) (fun c1 => ?_) (fun c1 => ?_)
      · replace hg := tq_if_t c1 hg
        refine lv_iconst (v := (-1)) hx hb d_Mo_class0_10 (by decide) ?_
        refine lv_goto (tgt := 21) hx hb d_Mo_class0_11 (by decide) ?_
        exact W.iret (v := (-1)) hx hb hr (fun t ht hW => ⟨⟨(-1), σ, rfl, tq_grI hg hn, by rw [ht]; exact hP, va_K.moved hW.alike hK, hD⟩, hS.F ht⟩) hS.2.2 d_Mo_class0_21
      · replace hg := tq_if_f c1 hg
        refine lv_iload_n hx hb d_Mo_class0_4 rfl (lv_at hl 1 rfl) ?_
        refine lv_bipush (v := 9) hx hb d_Mo_class0_5 (by decide) ?_
        refine lv_icmp_le (tgt := 14) hx hb d_Mo_class0_7 (by decide) (fun c2 => ?_) (fun c2 => ?_)
        · replace hg := tq_if_t c2 hg
          refine lv_aload_n hx hb d_Mo_class0_14 rfl (lv_at hl 0 rfl) ?_
          refine lv_iconst (v := 2) hx hb d_Mo_class0_15 (by decide) ?_
          refine lv_iload_n hx hb d_Mo_class0_16 rfl (lv_at hl 1 rfl) ?_
          refine lv_iconst (v := 0) hx hb d_Mo_class0_17 (by decide) ?_
          obtain ⟨r4, σ5, f3, hg⟩ := tq_ob_s hg
          refine tq_aI (va_runV (As := [.int 2, .int x1, .int 0]) (rest := []) ⟨hx, hb, hml, hown, hts⟩ (c_Mo_make l dC dI cI cL cZ ad tt H.size σ 2 x1 0  r4 σ5 f3) (cwV 3 hts (tq_gV tw_680 tw_682 ts_32 tw_6 tw_683) rfl rfl rfl (by decide +kernel) ⟨Nat.le_of_ble_eq_true rfl, Nat.le_of_ble_eq_true rfl⟩) ⟨tq_bl, va_recv hK hP (ci := 5) (q0 := 5) rfl rfl, (tq_pr hP hK hD hS hA hZ hN)⟩ rfl rfl hl.1 rfl (lv_room (Nat.le_of_ble_eq_true rfl)) d_Mo_class0_18 ⟨Nat.zero_le _, Nat.zero_le _⟩) hD hS hA (fun H locs hP hD hS => ?_)
          exact W.iret (v := r4) hx hb hr (fun t ht hW => ⟨⟨r4, σ5, rfl, tq_grI hg hn, by rw [ht]; exact hP, va_K.moved hW.alike hK, hD⟩, hS.F ht⟩) hS.2.2 d_Mo_class0_21
        · replace hg := tq_if_f c2 hg
          refine lv_iconst (v := (-1)) hx hb d_Mo_class0_10 (by decide) ?_
          refine lv_goto (tgt := 21) hx hb d_Mo_class0_11 (by decide) ?_
          exact W.iret (v := (-1)) hx hb hr (fun t ht hW => ⟨⟨(-1), σ, rfl, tq_grI hg hn, by rw [ht]; exact hP, va_K.moved hW.alike hK, hD⟩, hS.F ht⟩) hS.2.2 d_Mo_class0_21
  exact (key n0) hP hD hS hl h0
noncomputable def bk_Mo_concept_0 : List Int32 → List Int64 → tq_S → Option tq_C
  | [x1, x2, x3], [], σ => if ¬ x1 = 3 then if x1 = 4 then some (35, [x1, x2, x3], [], σ) else if ¬ x1 = 5 then if x1 = 6 then some (75, [x1, x2, x3], [], σ) else if ¬ x1 = 7 then some (tq_rt, [(-1)], [], σ) else some (75, [x1, x2, x3], [], σ) else some (35, [x1, x2, x3], [], σ) else tq_ob (tq_fI st_Mo_isConcept (0, [x2], [], σ)) (fun r7 σ8 => if r7 = 0 then some (tq_rt, [(-1)], [], σ8) else tq_ob (tq_fI st_Mo_make (0, [3, x2, 0], [], σ8)) (fun r11 σ12 => some (tq_rt, [r11], [], σ12)))
  | _, _, _ => none
noncomputable def bk_Mo_concept_35 : List Int32 → List Int64 → tq_S → Option tq_C
  | [x1, x2, x3], [], σ => tq_ob (tq_fI st_Mo_isConcept (0, [x2], [], σ)) (fun r14 σ15 => if r14 = 0 then some (tq_rt, [(-1)], [], σ15) else tq_ob (tq_fI st_Mo_isConcept (0, [x3], [], σ15)) (fun r18 σ19 => if r18 = 0 then some (tq_rt, [(-1)], [], σ19) else tq_ob (tq_fI st_Mo_make (0, [x1, x2, x3], [], σ19)) (fun r22 σ23 => some (tq_rt, [r22], [], σ23))))
  | _, _, _ => none
noncomputable def bk_Mo_concept_75 : List Int32 → List Int64 → tq_S → Option tq_C
  | [x1, x2, x3], [], σ => tq_ob (tq_fI st_Mo_isRole (0, [x2], [], σ)) (fun r25 σ26 => if r25 = 0 then some (tq_rt, [(-1)], [], σ26) else tq_ob (tq_fI st_Mo_isConcept (0, [x3], [], σ26)) (fun r29 σ30 => if ¬ r29 = 0 then if ¬ x1 = 6 then tq_ob (tq_fI st_Mo_make (0, [3, x3, 0], [], σ30)) (fun r34 σ35 => if r34 = (-3) then some (tq_rt, [(-3)], [], σ35) else tq_ob (tq_fI st_Mo_make (0, [6, x2, r34], [], σ35)) (fun r38 σ39 => if ¬ r38 = (-3) then tq_ob (tq_fI st_Mo_make (0, [7, x2, x3], [], σ39)) (fun r42 σ43 => some (tq_rt, [r42], [], σ43)) else some (tq_rt, [(-3)], [], σ39))) else tq_ob (tq_fI st_Mo_make (0, [6, x2, x3], [], σ30)) (fun r45 σ46 => some (tq_rt, [r45], [], σ46)) else some (tq_rt, [(-1)], [], σ30)))
  | _, _, _ => none
noncomputable def st_Mo_concept (c : tq_C) : Option tq_C := if c.1 = 0 then bk_Mo_concept_0 c.2.1 c.2.2.1 c.2.2.2 else if c.1 = 35 then bk_Mo_concept_35 c.2.1 c.2.2.1 c.2.2.2 else if c.1 = 75 then bk_Mo_concept_75 c.2.1 c.2.2.1 c.2.2.2 else none
set_option maxHeartbeats 40000000 in
set_option maxRecDepth 100000 in
theorem c_Mo_concept (l : Launch) (dC : Nat → ClassId) (dI : Nat → Nat → Nat) (cI cL cZ : ClassId) (ad : Nat → Nat) (tt : Nat) (sz : Nat) (σ : tq_S) (a1 : Int32) (a2 : Int32) (a3 : Int32) (r : Int32) (σ' : tq_S) (hf : tq_fI st_Mo_concept (0, [a1, a2, a3], [], σ) = some (r, σ')) : Met l y_Mo_concept w_Mo_concept ({ frames := 2, cells := 0, slots := 0, locals := 49 } : Room) (va_Pc [.ref (ad 5), .int a1, .int a2, .int a3] (tq_B dC dI cI cL cZ tt (wo cI cL cZ ad σ) sz)) (va_Qi (fun (r' : Int32) (u : tq_S) => r' = r ∧ u = σ') (tq_E dC dI cI cL cZ (wo cI cL cZ ad) (va_A (wo cI cL cZ ad σ) sz)) (va_A (wo cI cL cZ ad σ) sz)) 0 0 (va_A (wo cI cL cZ ad σ) sz) := by
  obtain ⟨n0, h0⟩ := tq_fI_to hf
  refine Met.ofW (cc := prog_7_method_8_code) (maxL := 5) (ret := (some .int)) (by decide) rfl ?_
  intro p e s m args below meth c s₁ B hml hv
  obtain ⟨rfl, hsz, hP, hK, hD0, hZ, hN⟩ := hv
  have hx := B.exec
  have hb := B.bytes
  have hr := B.returns
  have hts : ∀ w ∈ tq_T, w.before _ s = true := fun w h => atoms_spec (ws := w_Mo_concept) B.pre w (List.mem_cons_of_mem _ h)
  have hown : s.vm.findClass "TableauNodesModel" = some m.cls := findClass_of_methodNamed B.named
  have hlocks := B.notSynchronized
  subst hsz
  have hD := hD0.self (sz := s.heap.size)
  have hS : va_S (va_A (wo cI cL cZ ad σ) s.heap.size) s.heap s.heap [] := va_S.rf
  have hA : ∀ q : Nat, s.heap.size ≤ q → va_A (wo cI cL cZ ad σ) s.heap.size q := fun q h => Or.inr h
  generalize va_A (wo cI cL cZ ad σ) s.heap.size = A at hD hS hA hZ ⊢
  have hl := lv_entry ([.ref (ad 5), .int a1, .int a2, .int a3]) (n := 5) (Nat.le_of_ble_eq_true rfl)
  rw [lg_entry_eq]
  generalize (lg_sl ([.ref (ad 5), .int a1, .int a2, .int a3]) ++ List.replicate (5 - (lg_sl ([.ref (ad 5), .int a1, .int a2, .int a3])).length) Slot.unset).toArray = ls at hl ⊢
  have hl : lv_has ls 5 [(0, .ref (ad 5)), (1, .int a1), (2, .int a2), (3, .int a3)] := hl
  have key : ∀ n : Nat, (∀ {x1 x2 x3 : Int32} {σ : tq_S} {H : Heap} {locs : List Loc} {ls : Array Slot}, va_P (dC, dI) tq_cl (wo cI cL cZ ad σ) H → va_D A (wo cI cL cZ ad σ) → va_S A s.heap H locs → lv_has ls 5 [(0, .ref (ad 5)), (1, .int x1), (2, .int x2), (3, .int x3)] → tq_go st_Mo_concept n (0, [x1, x2, x3], [], σ) = some (tq_rt, [r], [], σ') → W p l e (headSpec w_Mo_concept ({ frames := 2, cells := 0, slots := 0, locals := 49 } : Room)).room s m ([.ref (ad 5), .int a1, .int a2, .int a3] : List Value).toArray below meth c H locs 0 0 (MQ below (va_Qi (fun (r' : Int32) (u : tq_S) => r' = r ∧ u = σ') (tq_E dC dI cI cL cZ (wo cI cL cZ ad) A) A) ([.ref (ad 5), .int a1, .int a2, .int a3] : List Value).toArray s 0 0 A) (F0 m 0 ls [])) ∧ (∀ {x1 x2 x3 : Int32} {σ : tq_S} {H : Heap} {locs : List Loc} {ls : Array Slot}, va_P (dC, dI) tq_cl (wo cI cL cZ ad σ) H → va_D A (wo cI cL cZ ad σ) → va_S A s.heap H locs → lv_has ls 5 [(0, .ref (ad 5)), (1, .int x1), (2, .int x2), (3, .int x3)] → tq_go st_Mo_concept n (35, [x1, x2, x3], [], σ) = some (tq_rt, [r], [], σ') → W p l e (headSpec w_Mo_concept ({ frames := 2, cells := 0, slots := 0, locals := 49 } : Room)).room s m ([.ref (ad 5), .int a1, .int a2, .int a3] : List Value).toArray below meth c H locs 0 0 (MQ below (va_Qi (fun (r' : Int32) (u : tq_S) => r' = r ∧ u = σ') (tq_E dC dI cI cL cZ (wo cI cL cZ ad) A) A) ([.ref (ad 5), .int a1, .int a2, .int a3] : List Value).toArray s 0 0 A) (F0 m 35 ls [])) ∧ (∀ {x1 x2 x3 : Int32} {σ : tq_S} {H : Heap} {locs : List Loc} {ls : Array Slot}, va_P (dC, dI) tq_cl (wo cI cL cZ ad σ) H → va_D A (wo cI cL cZ ad σ) → va_S A s.heap H locs → lv_has ls 5 [(0, .ref (ad 5)), (1, .int x1), (2, .int x2), (3, .int x3)] → tq_go st_Mo_concept n (75, [x1, x2, x3], [], σ) = some (tq_rt, [r], [], σ') → W p l e (headSpec w_Mo_concept ({ frames := 2, cells := 0, slots := 0, locals := 49 } : Room)).room s m ([.ref (ad 5), .int a1, .int a2, .int a3] : List Value).toArray below meth c H locs 0 0 (MQ below (va_Qi (fun (r' : Int32) (u : tq_S) => r' = r ∧ u = σ') (tq_E dC dI cI cL cZ (wo cI cL cZ ad) A) A) ([.ref (ad 5), .int a1, .int a2, .int a3] : List Value).toArray s 0 0 A) (F0 m 75 ls [])) := by
    intro n
    induction n with
    | zero => exact ⟨(fun _ _ _ _ h => by cases h), (fun _ _ _ _ h => by cases h), (fun _ _ _ _ h => by cases h)⟩
    | succ n ih =>
      refine ⟨?_, ?_, ?_⟩
      · intro x1 x2 x3 σ H locs ls hP hD hS hl h9
        obtain ⟨q9, hg, hn⟩ := tq_go_s h9 (show ¬ (0 : Nat) = tq_rt by decide)
        replace hg : bk_Mo_concept_0 [x1, x2, x3] [] σ = some q9 := hg
        unfold bk_Mo_concept_0 at hg
        refine lv_iload_n hx hb d_Mo_concept_0 rfl (lv_at hl 1 rfl) ?_
        refine lv_iconst (v := 3) hx hb d_Mo_concept_1 (by decide) ?_
        refine lv_icmp_ne (tgt := 25) hx hb d_Mo_concept_2 (by decide) (fun c1 => ?_) (fun c1 => ?_)
        · replace hg := tq_if_t c1 hg
          refine lv_iload_n hx hb d_Mo_concept_25 rfl (lv_at hl 1 rfl) ?_
          refine lv_iconst (v := 4) hx hb d_Mo_concept_26 (by decide) ?_
          refine lv_icmp_eq (tgt := 35) hx hb d_Mo_concept_27 (by decide) (fun c2 => ?_) (fun c2 => ?_)
          · replace hg := tq_if_t c2 hg
            exact ih.2.1 hP hD hS (lv_sub hl [0, 1, 2, 3] rfl) (tq_gi hg hn)
          · replace hg := tq_if_f c2 hg
            refine lv_iload_n hx hb d_Mo_concept_30 rfl (lv_at hl 1 rfl) ?_
            refine lv_iconst (v := 5) hx hb d_Mo_concept_31 (by decide) ?_
            refine lv_icmp_ne (tgt := 63) hx hb d_Mo_concept_32 (by decide) (fun c3 => ?_) (fun c3 => ?_)
            · replace hg := tq_if_t c3 hg
              refine lv_iload_n hx hb d_Mo_concept_63 rfl (lv_at hl 1 rfl) ?_
              refine lv_bipush (v := 6) hx hb d_Mo_concept_64 (by decide) ?_
              refine lv_icmp_eq (tgt := 75) hx hb d_Mo_concept_66 (by decide) (fun c4 => ?_) (fun c4 => ?_)
              · replace hg := tq_if_t c4 hg
                exact ih.2.2 hP hD hS (lv_sub hl [0, 1, 2, 3] rfl) (tq_gi hg hn)
              · replace hg := tq_if_f c4 hg
                refine lv_iload_n hx hb d_Mo_concept_69 rfl (lv_at hl 1 rfl) ?_
                refine lv_bipush (v := 7) hx hb d_Mo_concept_70 (by decide) ?_
                refine lv_icmp_ne (tgt := 90) hx hb d_Mo_concept_72 (by decide) (fun c5 => ?_) (fun c5 => ?_)
                · replace hg := tq_if_t c5 hg
                  refine lv_iconst (v := (-1)) hx hb d_Mo_concept_90 (by decide) ?_
                  exact W.iret (v := (-1)) hx hb hr (fun t ht hW => ⟨⟨(-1), σ, rfl, tq_grI hg hn, by rw [ht]; exact hP, va_K.moved hW.alike hK, hD⟩, hS.F ht⟩) hS.2.2 d_Mo_concept_91
                · replace hg := tq_if_n c5 hg
                  exact ih.2.2 hP hD hS (lv_sub hl [0, 1, 2, 3] rfl) (tq_gi hg hn)
            · replace hg := tq_if_n c3 hg
              exact ih.2.1 hP hD hS (lv_sub hl [0, 1, 2, 3] rfl) (tq_gi hg hn)
        · replace hg := tq_if_n c1 hg
          refine lv_aload_n hx hb d_Mo_concept_5 rfl (lv_at hl 0 rfl) ?_
          refine lv_iload_n hx hb d_Mo_concept_6 rfl (lv_at hl 2 rfl) ?_
          obtain ⟨r7, σ8, f6, hg⟩ := tq_ob_s hg
          refine tq_aI (va_runV (As := [.int x2]) (rest := []) ⟨hx, hb, hml, hown, hts⟩ (c_Mo_isConcept l dC dI cI cL cZ ad tt H.size σ x2  r7 σ8 f6) (cwV 1 hts (tq_gV tw_692 tw_694 ts_34 tw_6 tw_695) rfl rfl rfl (by decide +kernel) ⟨Nat.le_of_ble_eq_true rfl, Nat.le_of_ble_eq_true rfl⟩) ⟨tq_bl, va_recv hK hP (ci := 5) (q0 := 5) rfl rfl, (tq_pr hP hK hD hS hA hZ hN)⟩ rfl rfl hl.1 rfl (lv_room (Nat.le_of_ble_eq_true rfl)) d_Mo_concept_7 ⟨Nat.zero_le _, Nat.zero_le _⟩) hD hS hA (fun H locs hP hD hS => ?_)
          refine lv_if_eq (tgt := 23) hx hb d_Mo_concept_10 (by decide) (fun c9 => ?_) (fun c9 => ?_)
          · replace hg := tq_if_t c9 hg
            refine lv_iconst (v := (-1)) hx hb d_Mo_concept_23 (by decide) ?_
            exact W.iret (v := (-1)) hx hb hr (fun t ht hW => ⟨⟨(-1), σ8, rfl, tq_grI hg hn, by rw [ht]; exact hP, va_K.moved hW.alike hK, hD⟩, hS.F ht⟩) hS.2.2 d_Mo_concept_24
          · replace hg := tq_if_f c9 hg
            refine lv_aload_n hx hb d_Mo_concept_13 rfl (lv_at hl 0 rfl) ?_
            refine lv_iconst (v := 3) hx hb d_Mo_concept_14 (by decide) ?_
            refine lv_iload_n hx hb d_Mo_concept_15 rfl (lv_at hl 2 rfl) ?_
            refine lv_iconst (v := 0) hx hb d_Mo_concept_16 (by decide) ?_
            obtain ⟨r11, σ12, f10, hg⟩ := tq_ob_s hg
            refine tq_aI (va_runV (As := [.int 3, .int x2, .int 0]) (rest := []) ⟨hx, hb, hml, hown, hts⟩ (c_Mo_make l dC dI cI cL cZ ad tt H.size σ8 3 x2 0  r11 σ12 f10) (cwV 3 hts (tq_gV tw_680 tw_682 ts_32 tw_6 tw_683) rfl rfl rfl (by decide +kernel) ⟨Nat.le_of_ble_eq_true rfl, Nat.le_of_ble_eq_true rfl⟩) ⟨tq_bl, va_recv hK hP (ci := 5) (q0 := 5) rfl rfl, (tq_pr hP hK hD hS hA hZ hN)⟩ rfl rfl hl.1 rfl (lv_room (Nat.le_of_ble_eq_true rfl)) d_Mo_concept_17 ⟨Nat.zero_le _, Nat.zero_le _⟩) hD hS hA (fun H locs hP hD hS => ?_)
            refine lv_goto (tgt := 24) hx hb d_Mo_concept_20 (by decide) ?_
            exact W.iret (v := r11) hx hb hr (fun t ht hW => ⟨⟨r11, σ12, rfl, tq_grI hg hn, by rw [ht]; exact hP, va_K.moved hW.alike hK, hD⟩, hS.F ht⟩) hS.2.2 d_Mo_concept_24
      · intro x1 x2 x3 σ H locs ls hP hD hS hl h9
        obtain ⟨q9, hg, hn⟩ := tq_go_s h9 (show ¬ (35 : Nat) = tq_rt by decide)
        replace hg : bk_Mo_concept_35 [x1, x2, x3] [] σ = some q9 := hg
        unfold bk_Mo_concept_35 at hg
        refine lv_aload_n hx hb d_Mo_concept_35 rfl (lv_at hl 0 rfl) ?_
        refine lv_iload_n hx hb d_Mo_concept_36 rfl (lv_at hl 2 rfl) ?_
        obtain ⟨r14, σ15, f13, hg⟩ := tq_ob_s hg
        refine tq_aI (va_runV (As := [.int x2]) (rest := []) ⟨hx, hb, hml, hown, hts⟩ (c_Mo_isConcept l dC dI cI cL cZ ad tt H.size σ x2  r14 σ15 f13) (cwV 1 hts (tq_gV tw_692 tw_694 ts_34 tw_6 tw_695) rfl rfl rfl (by decide +kernel) ⟨Nat.le_of_ble_eq_true rfl, Nat.le_of_ble_eq_true rfl⟩) ⟨tq_bl, va_recv hK hP (ci := 5) (q0 := 5) rfl rfl, (tq_pr hP hK hD hS hA hZ hN)⟩ rfl rfl hl.1 rfl (lv_room (Nat.le_of_ble_eq_true rfl)) d_Mo_concept_37 ⟨Nat.zero_le _, Nat.zero_le _⟩) hD hS hA (fun H locs hP hD hS => ?_)
        refine lv_if_eq (tgt := 61) hx hb d_Mo_concept_40 (by decide) (fun c16 => ?_) (fun c16 => ?_)
        · replace hg := tq_if_t c16 hg
          refine lv_iconst (v := (-1)) hx hb d_Mo_concept_61 (by decide) ?_
          exact W.iret (v := (-1)) hx hb hr (fun t ht hW => ⟨⟨(-1), σ15, rfl, tq_grI hg hn, by rw [ht]; exact hP, va_K.moved hW.alike hK, hD⟩, hS.F ht⟩) hS.2.2 d_Mo_concept_62
        · replace hg := tq_if_f c16 hg
          refine lv_aload_n hx hb d_Mo_concept_43 rfl (lv_at hl 0 rfl) ?_
          refine lv_iload_n hx hb d_Mo_concept_44 rfl (lv_at hl 3 rfl) ?_
          obtain ⟨r18, σ19, f17, hg⟩ := tq_ob_s hg
          refine tq_aI (va_runV (As := [.int x3]) (rest := []) ⟨hx, hb, hml, hown, hts⟩ (c_Mo_isConcept l dC dI cI cL cZ ad tt H.size σ15 x3  r18 σ19 f17) (cwV 1 hts (tq_gV tw_692 tw_694 ts_34 tw_6 tw_695) rfl rfl rfl (by decide +kernel) ⟨Nat.le_of_ble_eq_true rfl, Nat.le_of_ble_eq_true rfl⟩) ⟨tq_bl, va_recv hK hP (ci := 5) (q0 := 5) rfl rfl, (tq_pr hP hK hD hS hA hZ hN)⟩ rfl rfl hl.1 rfl (lv_room (Nat.le_of_ble_eq_true rfl)) d_Mo_concept_45 ⟨Nat.zero_le _, Nat.zero_le _⟩) hD hS hA (fun H locs hP hD hS => ?_)
          refine lv_if_eq (tgt := 61) hx hb d_Mo_concept_48 (by decide) (fun c20 => ?_) (fun c20 => ?_)
          · replace hg := tq_if_t c20 hg
            refine lv_iconst (v := (-1)) hx hb d_Mo_concept_61 (by decide) ?_
            exact W.iret (v := (-1)) hx hb hr (fun t ht hW => ⟨⟨(-1), σ19, rfl, tq_grI hg hn, by rw [ht]; exact hP, va_K.moved hW.alike hK, hD⟩, hS.F ht⟩) hS.2.2 d_Mo_concept_62
          · replace hg := tq_if_f c20 hg
            refine lv_aload_n hx hb d_Mo_concept_51 rfl (lv_at hl 0 rfl) ?_
            refine lv_iload_n hx hb d_Mo_concept_52 rfl (lv_at hl 1 rfl) ?_
            refine lv_iload_n hx hb d_Mo_concept_53 rfl (lv_at hl 2 rfl) ?_
            refine lv_iload_n hx hb d_Mo_concept_54 rfl (lv_at hl 3 rfl) ?_
            obtain ⟨r22, σ23, f21, hg⟩ := tq_ob_s hg
            refine tq_aI (va_runV (As := [.int x1, .int x2, .int x3]) (rest := []) ⟨hx, hb, hml, hown, hts⟩ (c_Mo_make l dC dI cI cL cZ ad tt H.size σ19 x1 x2 x3  r22 σ23 f21) (cwV 3 hts (tq_gV tw_680 tw_682 ts_32 tw_6 tw_683) rfl rfl rfl (by decide +kernel) ⟨Nat.le_of_ble_eq_true rfl, Nat.le_of_ble_eq_true rfl⟩) ⟨tq_bl, va_recv hK hP (ci := 5) (q0 := 5) rfl rfl, (tq_pr hP hK hD hS hA hZ hN)⟩ rfl rfl hl.1 rfl (lv_room (Nat.le_of_ble_eq_true rfl)) d_Mo_concept_55 ⟨Nat.zero_le _, Nat.zero_le _⟩) hD hS hA (fun H locs hP hD hS => ?_)
            refine lv_goto (tgt := 62) hx hb d_Mo_concept_58 (by decide) ?_
            exact W.iret (v := r22) hx hb hr (fun t ht hW => ⟨⟨r22, σ23, rfl, tq_grI hg hn, by rw [ht]; exact hP, va_K.moved hW.alike hK, hD⟩, hS.F ht⟩) hS.2.2 d_Mo_concept_62
      · intro x1 x2 x3 σ H locs ls hP hD hS hl h9
        obtain ⟨q9, hg, hn⟩ := tq_go_s h9 (show ¬ (75 : Nat) = tq_rt by decide)
        replace hg : bk_Mo_concept_75 [x1, x2, x3] [] σ = some q9 := hg
        unfold bk_Mo_concept_75 at hg
        refine lv_iload_n hx hb d_Mo_concept_75 rfl (lv_at hl 2 rfl) ?_
        obtain ⟨r25, σ26, f24, hg⟩ := tq_ob_s hg
        refine tq_aI (va_runS (As := [.int x2]) (rest := []) ⟨hx, hb, hml, hown, hts⟩ (c_Mo_isRole l dC dI cI cL cZ ad tt H.size σ x2  r25 σ26 f24) (va_cwS 1 hts (tq_gS tw_696 tw_697 tw_6 tw_698) rfl rfl rfl (by decide +kernel) ⟨Nat.le_of_ble_eq_true rfl, Nat.le_of_ble_eq_true rfl⟩) ⟨tq_bl, (tq_pr hP hK hD hS hA hZ hN)⟩ rfl rfl hl.1 rfl (lv_room (Nat.le_of_ble_eq_true rfl)) d_Mo_concept_76 ⟨Nat.zero_le _, Nat.zero_le _⟩) hD hS hA (fun H locs hP hD hS => ?_)
        refine lv_if_eq (tgt := 90) hx hb d_Mo_concept_79 (by decide) (fun c27 => ?_) (fun c27 => ?_)
        · replace hg := tq_if_t c27 hg
          refine lv_iconst (v := (-1)) hx hb d_Mo_concept_90 (by decide) ?_
          exact W.iret (v := (-1)) hx hb hr (fun t ht hW => ⟨⟨(-1), σ26, rfl, tq_grI hg hn, by rw [ht]; exact hP, va_K.moved hW.alike hK, hD⟩, hS.F ht⟩) hS.2.2 d_Mo_concept_91
        · replace hg := tq_if_f c27 hg
          refine lv_aload_n hx hb d_Mo_concept_82 rfl (lv_at hl 0 rfl) ?_
          refine lv_iload_n hx hb d_Mo_concept_83 rfl (lv_at hl 3 rfl) ?_
          obtain ⟨r29, σ30, f28, hg⟩ := tq_ob_s hg
          refine tq_aI (va_runV (As := [.int x3]) (rest := []) ⟨hx, hb, hml, hown, hts⟩ (c_Mo_isConcept l dC dI cI cL cZ ad tt H.size σ26 x3  r29 σ30 f28) (cwV 1 hts (tq_gV tw_692 tw_694 ts_34 tw_6 tw_695) rfl rfl rfl (by decide +kernel) ⟨Nat.le_of_ble_eq_true rfl, Nat.le_of_ble_eq_true rfl⟩) ⟨tq_bl, va_recv hK hP (ci := 5) (q0 := 5) rfl rfl, (tq_pr hP hK hD hS hA hZ hN)⟩ rfl rfl hl.1 rfl (lv_room (Nat.le_of_ble_eq_true rfl)) d_Mo_concept_84 ⟨Nat.zero_le _, Nat.zero_le _⟩) hD hS hA (fun H locs hP hD hS => ?_)
          refine lv_if_ne (tgt := 92) hx hb d_Mo_concept_87 (by decide) (fun c31 => ?_) (fun c31 => ?_)
          · replace hg := tq_if_t c31 hg
            refine lv_iload_n hx hb d_Mo_concept_92 rfl (lv_at hl 1 rfl) ?_
            refine lv_bipush (v := 6) hx hb d_Mo_concept_93 (by decide) ?_
            refine lv_icmp_ne (tgt := 107) hx hb d_Mo_concept_95 (by decide) (fun c32 => ?_) (fun c32 => ?_)
            · replace hg := tq_if_t c32 hg
              refine lv_aload_n hx hb d_Mo_concept_107 rfl (lv_at hl 0 rfl) ?_
              refine lv_iconst (v := 3) hx hb d_Mo_concept_108 (by decide) ?_
              refine lv_iload_n hx hb d_Mo_concept_109 rfl (lv_at hl 3 rfl) ?_
              refine lv_iconst (v := 0) hx hb d_Mo_concept_110 (by decide) ?_
              obtain ⟨r34, σ35, f33, hg⟩ := tq_ob_s hg
              refine tq_aI (va_runV (As := [.int 3, .int x3, .int 0]) (rest := []) ⟨hx, hb, hml, hown, hts⟩ (c_Mo_make l dC dI cI cL cZ ad tt H.size σ30 3 x3 0  r34 σ35 f33) (cwV 3 hts (tq_gV tw_680 tw_682 ts_32 tw_6 tw_683) rfl rfl rfl (by decide +kernel) ⟨Nat.le_of_ble_eq_true rfl, Nat.le_of_ble_eq_true rfl⟩) ⟨tq_bl, va_recv hK hP (ci := 5) (q0 := 5) rfl rfl, (tq_pr hP hK hD hS hA hZ hN)⟩ rfl rfl hl.1 rfl (lv_room (Nat.le_of_ble_eq_true rfl)) d_Mo_concept_111 ⟨Nat.zero_le _, Nat.zero_le _⟩) hD hS hA (fun H locs hP hD hS => ?_)
              refine lv_istore (lv' := [(4, .int r34), (0, .ref (ad 5)), (1, .int x1), (2, .int x2), (3, .int x3)]) hx hb d_Mo_concept_114 hl (by decide) rfl (fun ls hl => ?_)
              refine lv_iload hx hb d_Mo_concept_116 (lv_at hl 0 rfl) ?_
              refine lv_bipush (v := (-3)) hx hb d_Mo_concept_118 (by decide) ?_
              refine lv_icmp_eq (tgt := 137) hx hb d_Mo_concept_120 (by decide) (fun c36 => ?_) (fun c36 => ?_)
              · replace hg := tq_if_t c36 hg
                refine lv_bipush (v := (-3)) hx hb d_Mo_concept_137 (by decide) ?_
                exact W.iret (v := (-3)) hx hb hr (fun t ht hW => ⟨⟨(-3), σ35, rfl, tq_grI hg hn, by rw [ht]; exact hP, va_K.moved hW.alike hK, hD⟩, hS.F ht⟩) hS.2.2 d_Mo_concept_139
              · replace hg := tq_if_f c36 hg
                refine lv_aload_n hx hb d_Mo_concept_123 rfl (lv_at hl 1 rfl) ?_
                refine lv_bipush (v := 6) hx hb d_Mo_concept_124 (by decide) ?_
                refine lv_iload_n hx hb d_Mo_concept_126 rfl (lv_at hl 3 rfl) ?_
                refine lv_iload hx hb d_Mo_concept_127 (lv_at hl 0 rfl) ?_
                obtain ⟨r38, σ39, f37, hg⟩ := tq_ob_s hg
                refine tq_aI (va_runV (As := [.int 6, .int x2, .int r34]) (rest := []) ⟨hx, hb, hml, hown, hts⟩ (c_Mo_make l dC dI cI cL cZ ad tt H.size σ35 6 x2 r34  r38 σ39 f37) (cwV 3 hts (tq_gV tw_680 tw_682 ts_32 tw_6 tw_683) rfl rfl rfl (by decide +kernel) ⟨Nat.le_of_ble_eq_true rfl, Nat.le_of_ble_eq_true rfl⟩) ⟨tq_bl, va_recv hK hP (ci := 5) (q0 := 5) rfl rfl, (tq_pr hP hK hD hS hA hZ hN)⟩ rfl rfl hl.1 rfl (lv_room (Nat.le_of_ble_eq_true rfl)) d_Mo_concept_129 ⟨Nat.zero_le _, Nat.zero_le _⟩) hD hS hA (fun H locs hP hD hS => ?_)
                refine lv_bipush (v := (-3)) hx hb d_Mo_concept_132 (by decide) ?_
                refine lv_icmp_ne (tgt := 140) hx hb d_Mo_concept_134 (by decide) (fun c40 => ?_) (fun c40 => ?_)
                · replace hg := tq_if_t c40 hg
                  refine lv_aload_n hx hb d_Mo_concept_140 rfl (lv_at hl 1 rfl) ?_
                  refine lv_bipush (v := 7) hx hb d_Mo_concept_141 (by decide) ?_
                  refine lv_iload_n hx hb d_Mo_concept_143 rfl (lv_at hl 3 rfl) ?_
                  refine lv_iload_n hx hb d_Mo_concept_144 rfl (lv_at hl 4 rfl) ?_
                  obtain ⟨r42, σ43, f41, hg⟩ := tq_ob_s hg
                  refine tq_aI (va_runV (As := [.int 7, .int x2, .int x3]) (rest := []) ⟨hx, hb, hml, hown, hts⟩ (c_Mo_make l dC dI cI cL cZ ad tt H.size σ39 7 x2 x3  r42 σ43 f41) (cwV 3 hts (tq_gV tw_680 tw_682 ts_32 tw_6 tw_683) rfl rfl rfl (by decide +kernel) ⟨Nat.le_of_ble_eq_true rfl, Nat.le_of_ble_eq_true rfl⟩) ⟨tq_bl, va_recv hK hP (ci := 5) (q0 := 5) rfl rfl, (tq_pr hP hK hD hS hA hZ hN)⟩ rfl rfl hl.1 rfl (lv_room (Nat.le_of_ble_eq_true rfl)) d_Mo_concept_145 ⟨Nat.zero_le _, Nat.zero_le _⟩) hD hS hA (fun H locs hP hD hS => ?_)
                  exact W.iret (v := r42) hx hb hr (fun t ht hW => ⟨⟨r42, σ43, rfl, tq_grI hg hn, by rw [ht]; exact hP, va_K.moved hW.alike hK, hD⟩, hS.F ht⟩) hS.2.2 d_Mo_concept_148
                · replace hg := tq_if_n c40 hg
                  refine lv_bipush (v := (-3)) hx hb d_Mo_concept_137 (by decide) ?_
                  exact W.iret (v := (-3)) hx hb hr (fun t ht hW => ⟨⟨(-3), σ39, rfl, tq_grI hg hn, by rw [ht]; exact hP, va_K.moved hW.alike hK, hD⟩, hS.F ht⟩) hS.2.2 d_Mo_concept_139
            · replace hg := tq_if_n c32 hg
              refine lv_aload_n hx hb d_Mo_concept_98 rfl (lv_at hl 0 rfl) ?_
              refine lv_bipush (v := 6) hx hb d_Mo_concept_99 (by decide) ?_
              refine lv_iload_n hx hb d_Mo_concept_101 rfl (lv_at hl 2 rfl) ?_
              refine lv_iload_n hx hb d_Mo_concept_102 rfl (lv_at hl 3 rfl) ?_
              obtain ⟨r45, σ46, f44, hg⟩ := tq_ob_s hg
              refine tq_aI (va_runV (As := [.int 6, .int x2, .int x3]) (rest := []) ⟨hx, hb, hml, hown, hts⟩ (c_Mo_make l dC dI cI cL cZ ad tt H.size σ30 6 x2 x3  r45 σ46 f44) (cwV 3 hts (tq_gV tw_680 tw_682 ts_32 tw_6 tw_683) rfl rfl rfl (by decide +kernel) ⟨Nat.le_of_ble_eq_true rfl, Nat.le_of_ble_eq_true rfl⟩) ⟨tq_bl, va_recv hK hP (ci := 5) (q0 := 5) rfl rfl, (tq_pr hP hK hD hS hA hZ hN)⟩ rfl rfl hl.1 rfl (lv_room (Nat.le_of_ble_eq_true rfl)) d_Mo_concept_103 ⟨Nat.zero_le _, Nat.zero_le _⟩) hD hS hA (fun H locs hP hD hS => ?_)
              exact W.iret (v := r45) hx hb hr (fun t ht hW => ⟨⟨r45, σ46, rfl, tq_grI hg hn, by rw [ht]; exact hP, va_K.moved hW.alike hK, hD⟩, hS.F ht⟩) hS.2.2 d_Mo_concept_106
          · replace hg := tq_if_n c31 hg
            refine lv_iconst (v := (-1)) hx hb d_Mo_concept_90 (by decide) ?_
            exact W.iret (v := (-1)) hx hb hr (fun t ht hW => ⟨⟨(-1), σ30, rfl, tq_grI hg hn, by rw [ht]; exact hP, va_K.moved hW.alike hK, hD⟩, hS.F ht⟩) hS.2.2 d_Mo_concept_91
  exact (key n0).1 hP hD hS hl h0
noncomputable def bk_Mo_told_0 : List Int32 → List Int64 → tq_S → Option tq_C
  | [x1, x2], [], σ => tq_ob (tq_fI st_Mo_isConcept (0, [x1], [], σ)) (fun r2 σ3 => if ¬ r2 = 0 then if ¬ x2 = 0 then if ¬ x2 = 1 then if ¬ x2 = 2 then some (tq_rt, [(-1)], [], σ3) else tq_gd x1 80 (some (tq_rt, [(ia σ3 19 x1)], [], σ3)) else tq_gd x1 80 (some (tq_rt, [(ia σ3 18 x1)], [], σ3)) else tq_gd x1 80 (some (tq_rt, [(ia σ3 17 x1)], [], σ3)) else some (tq_rt, [(-1)], [], σ3))
  | _, _, _ => none
noncomputable def st_Mo_told (c : tq_C) : Option tq_C := if c.1 = 0 then bk_Mo_told_0 c.2.1 c.2.2.1 c.2.2.2 else none
set_option maxHeartbeats 40000000 in
set_option maxRecDepth 100000 in
theorem c_Mo_told (l : Launch) (dC : Nat → ClassId) (dI : Nat → Nat → Nat) (cI cL cZ : ClassId) (ad : Nat → Nat) (tt : Nat) (sz : Nat) (σ : tq_S) (a1 : Int32) (a2 : Int32) (r : Int32) (σ' : tq_S) (hf : tq_fI st_Mo_told (0, [a1, a2], [], σ) = some (r, σ')) : Met l y_Mo_told w_Mo_told ({ frames := 1, cells := 0, slots := 0, locals := 21 } : Room) (va_Pc [.ref (ad 5), .int a1, .int a2] (tq_B dC dI cI cL cZ tt (wo cI cL cZ ad σ) sz)) (va_Qi (fun (r' : Int32) (u : tq_S) => r' = r ∧ u = σ') (tq_E dC dI cI cL cZ (wo cI cL cZ ad) (va_A (wo cI cL cZ ad σ) sz)) (va_A (wo cI cL cZ ad σ) sz)) 0 0 (va_A (wo cI cL cZ ad σ) sz) := by
  obtain ⟨n0, h0⟩ := tq_fI_to hf
  refine Met.ofW (cc := prog_7_method_9_code) (maxL := 3) (ret := (some .int)) (by decide) rfl ?_
  intro p e s m args below meth c s₁ B hml hv
  obtain ⟨rfl, hsz, hP, hK, hD0, hZ, hN⟩ := hv
  have hx := B.exec
  have hb := B.bytes
  have hr := B.returns
  have hts : ∀ w ∈ tq_T, w.before _ s = true := fun w h => atoms_spec (ws := w_Mo_told) B.pre w (List.mem_cons_of_mem _ h)
  have hown : s.vm.findClass "TableauNodesModel" = some m.cls := findClass_of_methodNamed B.named
  have hlocks := B.notSynchronized
  subst hsz
  have hD := hD0.self (sz := s.heap.size)
  have hS : va_S (va_A (wo cI cL cZ ad σ) s.heap.size) s.heap s.heap [] := va_S.rf
  have hA : ∀ q : Nat, s.heap.size ≤ q → va_A (wo cI cL cZ ad σ) s.heap.size q := fun q h => Or.inr h
  generalize va_A (wo cI cL cZ ad σ) s.heap.size = A at hD hS hA hZ ⊢
  have hl := lv_entry ([.ref (ad 5), .int a1, .int a2]) (n := 3) (Nat.le_of_ble_eq_true rfl)
  rw [lg_entry_eq]
  generalize (lg_sl ([.ref (ad 5), .int a1, .int a2]) ++ List.replicate (3 - (lg_sl ([.ref (ad 5), .int a1, .int a2])).length) Slot.unset).toArray = ls at hl ⊢
  have hl : lv_has ls 3 [(0, .ref (ad 5)), (1, .int a1), (2, .int a2)] := hl
  have key : ∀ n : Nat, (∀ {x1 x2 : Int32} {σ : tq_S} {H : Heap} {locs : List Loc} {ls : Array Slot}, va_P (dC, dI) tq_cl (wo cI cL cZ ad σ) H → va_D A (wo cI cL cZ ad σ) → va_S A s.heap H locs → lv_has ls 3 [(0, .ref (ad 5)), (1, .int x1), (2, .int x2)] → tq_go st_Mo_told n (0, [x1, x2], [], σ) = some (tq_rt, [r], [], σ') → W p l e (headSpec w_Mo_told ({ frames := 1, cells := 0, slots := 0, locals := 21 } : Room)).room s m ([.ref (ad 5), .int a1, .int a2] : List Value).toArray below meth c H locs 0 0 (MQ below (va_Qi (fun (r' : Int32) (u : tq_S) => r' = r ∧ u = σ') (tq_E dC dI cI cL cZ (wo cI cL cZ ad) A) A) ([.ref (ad 5), .int a1, .int a2] : List Value).toArray s 0 0 A) (F0 m 0 ls [])) := by
    intro n
    induction n with
    | zero => exact fun _ _ _ _ h => by cases h
    | succ n ih =>
      intro x1 x2 σ H locs ls hP hD hS hl h9
      obtain ⟨q9, hg, hn⟩ := tq_go_s h9 (show ¬ (0 : Nat) = tq_rt by decide)
      replace hg : bk_Mo_told_0 [x1, x2] [] σ = some q9 := hg
      unfold bk_Mo_told_0 at hg
      refine lv_aload_n hx hb d_Mo_told_0 rfl (lv_at hl 0 rfl) ?_
      refine lv_iload_n hx hb d_Mo_told_1 rfl (lv_at hl 1 rfl) ?_
      obtain ⟨r2, σ3, f1, hg⟩ := tq_ob_s hg
      refine tq_aI (va_runV (As := [.int x1]) (rest := []) ⟨hx, hb, hml, hown, hts⟩ (c_Mo_isConcept l dC dI cI cL cZ ad tt H.size σ x1  r2 σ3 f1) (cwV 1 hts (tq_gV tw_692 tw_694 ts_34 tw_6 tw_695) rfl rfl rfl (by decide +kernel) ⟨Nat.le_of_ble_eq_true rfl, Nat.le_of_ble_eq_true rfl⟩) ⟨tq_bl, va_recv hK hP (ci := 5) (q0 := 5) rfl rfl, (tq_pr hP hK hD hS hA hZ hN)⟩ rfl rfl hl.1 rfl (lv_room (Nat.le_of_ble_eq_true rfl)) d_Mo_told_2 ⟨Nat.zero_le _, Nat.zero_le _⟩) hD hS hA (fun H locs hP hD hS => ?_)
      refine lv_if_ne (tgt := 10) hx hb d_Mo_told_5 (by decide) (fun c4 => ?_) (fun c4 => ?_)
      · replace hg := tq_if_t c4 hg
        refine lv_iload_n hx hb d_Mo_told_10 rfl (lv_at hl 2 rfl) ?_
        refine lv_if_ne (tgt := 23) hx hb d_Mo_told_11 (by decide) (fun c5 => ?_) (fun c5 => ?_)
        · replace hg := tq_if_t c5 hg
          refine lv_iload_n hx hb d_Mo_told_23 rfl (lv_at hl 2 rfl) ?_
          refine lv_iconst (v := 1) hx hb d_Mo_told_24 (by decide) ?_
          refine lv_icmp_ne (tgt := 37) hx hb d_Mo_told_25 (by decide) (fun c6 => ?_) (fun c6 => ?_)
          · replace hg := tq_if_t c6 hg
            refine lv_iload_n hx hb d_Mo_told_37 rfl (lv_at hl 2 rfl) ?_
            refine lv_iconst (v := 2) hx hb d_Mo_told_38 (by decide) ?_
            refine lv_icmp_ne (tgt := 51) hx hb d_Mo_told_39 (by decide) (fun c7 => ?_) (fun c7 => ?_)
            · replace hg := tq_if_t c7 hg
              refine lv_iconst (v := (-1)) hx hb d_Mo_told_51 (by decide) ?_
              exact W.iret (v := (-1)) hx hb hr (fun t ht hW => ⟨⟨(-1), σ3, rfl, tq_grI hg hn, by rw [ht]; exact hP, va_K.moved hW.alike hK, hD⟩, hS.F ht⟩) hS.2.2 d_Mo_told_52
            · replace hg := tq_if_n c7 hg
              refine lv_aload_n hx hb d_Mo_told_42 rfl (lv_at hl 0 rfl) ?_
              refine va_get (D := (dC, dI)) (ci := 5) (v := .ref (ad 32)) (C := "TableauNodesModel") (T := F_Mo) (N := 25) hx hb hts in_Mo hown hK hP 5 rfl rfl 2 (by decide) (hts _ tw_601) (fun _ h9 => h9) rfl d_Mo_told_43 ?_
              refine lv_iload_n hx hb d_Mo_told_46 rfl (lv_at hl 1 rfl) ?_
              obtain ⟨g8, hg⟩ := tq_gd_s hg
              refine va_iald hx hb hK hP 32 0 rfl rfl g8 d_Mo_told_47 ?_
              refine lv_goto (tgt := 52) hx hb d_Mo_told_48 (by decide) ?_
              exact W.iret (v := (ia σ3 19 x1)) hx hb hr (fun t ht hW => ⟨⟨(ia σ3 19 x1), σ3, rfl, tq_grI hg hn, by rw [ht]; exact hP, va_K.moved hW.alike hK, hD⟩, hS.F ht⟩) hS.2.2 d_Mo_told_52
          · replace hg := tq_if_n c6 hg
            refine lv_aload_n hx hb d_Mo_told_28 rfl (lv_at hl 0 rfl) ?_
            refine va_get (D := (dC, dI)) (ci := 5) (v := .ref (ad 31)) (C := "TableauNodesModel") (T := F_Mo) (N := 25) hx hb hts in_Mo hown hK hP 5 rfl rfl 1 (by decide) (hts _ tw_600) (fun _ h9 => h9) rfl d_Mo_told_29 ?_
            refine lv_iload_n hx hb d_Mo_told_32 rfl (lv_at hl 1 rfl) ?_
            obtain ⟨g9, hg⟩ := tq_gd_s hg
            refine va_iald hx hb hK hP 31 0 rfl rfl g9 d_Mo_told_33 ?_
            refine lv_goto (tgt := 52) hx hb d_Mo_told_34 (by decide) ?_
            exact W.iret (v := (ia σ3 18 x1)) hx hb hr (fun t ht hW => ⟨⟨(ia σ3 18 x1), σ3, rfl, tq_grI hg hn, by rw [ht]; exact hP, va_K.moved hW.alike hK, hD⟩, hS.F ht⟩) hS.2.2 d_Mo_told_52
        · replace hg := tq_if_n c5 hg
          refine lv_aload_n hx hb d_Mo_told_14 rfl (lv_at hl 0 rfl) ?_
          refine va_get (D := (dC, dI)) (ci := 5) (v := .ref (ad 30)) (C := "TableauNodesModel") (T := F_Mo) (N := 25) hx hb hts in_Mo hown hK hP 5 rfl rfl 0 (by decide) (hts _ tw_599) (fun _ h9 => h9) rfl d_Mo_told_15 ?_
          refine lv_iload_n hx hb d_Mo_told_18 rfl (lv_at hl 1 rfl) ?_
          obtain ⟨g10, hg⟩ := tq_gd_s hg
          refine va_iald hx hb hK hP 30 0 rfl rfl g10 d_Mo_told_19 ?_
          refine lv_goto (tgt := 52) hx hb d_Mo_told_20 (by decide) ?_
          exact W.iret (v := (ia σ3 17 x1)) hx hb hr (fun t ht hW => ⟨⟨(ia σ3 17 x1), σ3, rfl, tq_grI hg hn, by rw [ht]; exact hP, va_K.moved hW.alike hK, hD⟩, hS.F ht⟩) hS.2.2 d_Mo_told_52
      · replace hg := tq_if_n c4 hg
        refine lv_iconst (v := (-1)) hx hb d_Mo_told_8 (by decide) ?_
        exact W.iret (v := (-1)) hx hb hr (fun t ht hW => ⟨⟨(-1), σ3, rfl, tq_grI hg hn, by rw [ht]; exact hP, va_K.moved hW.alike hK, hD⟩, hS.F ht⟩) hS.2.2 d_Mo_told_9
  exact (key n0) hP hD hS hl h0
noncomputable def bk_Mo_concepts_0 : List Int32 → List Int64 → tq_S → Option tq_C
  | [], [], σ => some (tq_rt, [(σ.2.2 13)], [], σ)
  | _, _, _ => none
noncomputable def st_Mo_concepts (c : tq_C) : Option tq_C := if c.1 = 0 then bk_Mo_concepts_0 c.2.1 c.2.2.1 c.2.2.2 else none
set_option maxHeartbeats 40000000 in
set_option maxRecDepth 100000 in
theorem c_Mo_concepts (l : Launch) (dC : Nat → ClassId) (dI : Nat → Nat → Nat) (cI cL cZ : ClassId) (ad : Nat → Nat) (tt : Nat) (sz : Nat) (σ : tq_S) (r : Int32) (σ' : tq_S) (hf : tq_fI st_Mo_concepts (0, [], [], σ) = some (r, σ')) : Met l y_Mo_concepts w_Mo_concepts ({ frames := 0, cells := 0, slots := 0, locals := 0 } : Room) (va_Pc [.ref (ad 5)] (tq_B dC dI cI cL cZ tt (wo cI cL cZ ad σ) sz)) (va_Qi (fun (r' : Int32) (u : tq_S) => r' = r ∧ u = σ') (tq_E dC dI cI cL cZ (wo cI cL cZ ad) (va_A (wo cI cL cZ ad σ) sz)) (va_A (wo cI cL cZ ad σ) sz)) 0 0 (va_A (wo cI cL cZ ad σ) sz) := by
  obtain ⟨n0, h0⟩ := tq_fI_to hf
  refine Met.ofW (cc := prog_7_method_10_code) (maxL := 1) (ret := (some .int)) (by decide) rfl ?_
  intro p e s m args below meth c s₁ B hml hv
  obtain ⟨rfl, hsz, hP, hK, hD0, hZ, hN⟩ := hv
  have hx := B.exec
  have hb := B.bytes
  have hr := B.returns
  have hts : ∀ w ∈ tq_T, w.before _ s = true := fun w h => atoms_spec (ws := w_Mo_concepts) B.pre w (List.mem_cons_of_mem _ h)
  have hown : s.vm.findClass "TableauNodesModel" = some m.cls := findClass_of_methodNamed B.named
  have hlocks := B.notSynchronized
  subst hsz
  have hD := hD0.self (sz := s.heap.size)
  have hS : va_S (va_A (wo cI cL cZ ad σ) s.heap.size) s.heap s.heap [] := va_S.rf
  have hA : ∀ q : Nat, s.heap.size ≤ q → va_A (wo cI cL cZ ad σ) s.heap.size q := fun q h => Or.inr h
  generalize va_A (wo cI cL cZ ad σ) s.heap.size = A at hD hS hA hZ ⊢
  have hl := lv_entry ([.ref (ad 5)]) (n := 1) (Nat.le_of_ble_eq_true rfl)
  rw [lg_entry_eq]
  generalize (lg_sl ([.ref (ad 5)]) ++ List.replicate (1 - (lg_sl ([.ref (ad 5)])).length) Slot.unset).toArray = ls at hl ⊢
  have hl : lv_has ls 1 [(0, .ref (ad 5))] := hl
  have key : ∀ n : Nat, (∀ {σ : tq_S} {H : Heap} {locs : List Loc} {ls : Array Slot}, va_P (dC, dI) tq_cl (wo cI cL cZ ad σ) H → va_D A (wo cI cL cZ ad σ) → va_S A s.heap H locs → lv_has ls 1 [(0, .ref (ad 5))] → tq_go st_Mo_concepts n (0, [], [], σ) = some (tq_rt, [r], [], σ') → W p l e (headSpec w_Mo_concepts ({ frames := 0, cells := 0, slots := 0, locals := 0 } : Room)).room s m ([.ref (ad 5)] : List Value).toArray below meth c H locs 0 0 (MQ below (va_Qi (fun (r' : Int32) (u : tq_S) => r' = r ∧ u = σ') (tq_E dC dI cI cL cZ (wo cI cL cZ ad) A) A) ([.ref (ad 5)] : List Value).toArray s 0 0 A) (F0 m 0 ls [])) := by
    intro n
    induction n with
    | zero => exact fun _ _ _ _ h => by cases h
    | succ n ih =>
      intro  σ H locs ls hP hD hS hl h9
      obtain ⟨q9, hg, hn⟩ := tq_go_s h9 (show ¬ (0 : Nat) = tq_rt by decide)
      replace hg : bk_Mo_concepts_0 [] [] σ = some q9 := hg
      unfold bk_Mo_concepts_0 at hg
      refine lv_aload_n hx hb d_Mo_concepts_0 rfl (lv_at hl 0 rfl) ?_
      refine va_get (D := (dC, dI)) (ci := 5) (v := .int (σ.2.2 13)) (C := "TableauNodesModel") (T := F_Mo) (N := 25) hx hb hts in_Mo hown hK hP 5 rfl rfl 3 (by decide) (hts _ tw_602) (fun _ h9 => h9) rfl d_Mo_concepts_1 ?_
      exact W.iret (v := (σ.2.2 13)) hx hb hr (fun t ht hW => ⟨⟨(σ.2.2 13), σ, rfl, tq_grI hg hn, by rw [ht]; exact hP, va_K.moved hW.alike hK, hD⟩, hS.F ht⟩) hS.2.2 d_Mo_concepts_4
  exact (key n0) hP hD hS hl h0
noncomputable def bk_Mo_atoms_0 : List Int32 → List Int64 → tq_S → Option tq_C
  | [], [], σ => some (tq_rt, [(σ.2.2 14)], [], σ)
  | _, _, _ => none
noncomputable def st_Mo_atoms (c : tq_C) : Option tq_C := if c.1 = 0 then bk_Mo_atoms_0 c.2.1 c.2.2.1 c.2.2.2 else none
set_option maxHeartbeats 40000000 in
set_option maxRecDepth 100000 in
theorem c_Mo_atoms (l : Launch) (dC : Nat → ClassId) (dI : Nat → Nat → Nat) (cI cL cZ : ClassId) (ad : Nat → Nat) (tt : Nat) (sz : Nat) (σ : tq_S) (r : Int32) (σ' : tq_S) (hf : tq_fI st_Mo_atoms (0, [], [], σ) = some (r, σ')) : Met l y_Mo_atoms w_Mo_atoms ({ frames := 0, cells := 0, slots := 0, locals := 0 } : Room) (va_Pc [.ref (ad 5)] (tq_B dC dI cI cL cZ tt (wo cI cL cZ ad σ) sz)) (va_Qi (fun (r' : Int32) (u : tq_S) => r' = r ∧ u = σ') (tq_E dC dI cI cL cZ (wo cI cL cZ ad) (va_A (wo cI cL cZ ad σ) sz)) (va_A (wo cI cL cZ ad σ) sz)) 0 0 (va_A (wo cI cL cZ ad σ) sz) := by
  obtain ⟨n0, h0⟩ := tq_fI_to hf
  refine Met.ofW (cc := prog_7_method_11_code) (maxL := 1) (ret := (some .int)) (by decide) rfl ?_
  intro p e s m args below meth c s₁ B hml hv
  obtain ⟨rfl, hsz, hP, hK, hD0, hZ, hN⟩ := hv
  have hx := B.exec
  have hb := B.bytes
  have hr := B.returns
  have hts : ∀ w ∈ tq_T, w.before _ s = true := fun w h => atoms_spec (ws := w_Mo_atoms) B.pre w (List.mem_cons_of_mem _ h)
  have hown : s.vm.findClass "TableauNodesModel" = some m.cls := findClass_of_methodNamed B.named
  have hlocks := B.notSynchronized
  subst hsz
  have hD := hD0.self (sz := s.heap.size)
  have hS : va_S (va_A (wo cI cL cZ ad σ) s.heap.size) s.heap s.heap [] := va_S.rf
  have hA : ∀ q : Nat, s.heap.size ≤ q → va_A (wo cI cL cZ ad σ) s.heap.size q := fun q h => Or.inr h
  generalize va_A (wo cI cL cZ ad σ) s.heap.size = A at hD hS hA hZ ⊢
  have hl := lv_entry ([.ref (ad 5)]) (n := 1) (Nat.le_of_ble_eq_true rfl)
  rw [lg_entry_eq]
  generalize (lg_sl ([.ref (ad 5)]) ++ List.replicate (1 - (lg_sl ([.ref (ad 5)])).length) Slot.unset).toArray = ls at hl ⊢
  have hl : lv_has ls 1 [(0, .ref (ad 5))] := hl
  have key : ∀ n : Nat, (∀ {σ : tq_S} {H : Heap} {locs : List Loc} {ls : Array Slot}, va_P (dC, dI) tq_cl (wo cI cL cZ ad σ) H → va_D A (wo cI cL cZ ad σ) → va_S A s.heap H locs → lv_has ls 1 [(0, .ref (ad 5))] → tq_go st_Mo_atoms n (0, [], [], σ) = some (tq_rt, [r], [], σ') → W p l e (headSpec w_Mo_atoms ({ frames := 0, cells := 0, slots := 0, locals := 0 } : Room)).room s m ([.ref (ad 5)] : List Value).toArray below meth c H locs 0 0 (MQ below (va_Qi (fun (r' : Int32) (u : tq_S) => r' = r ∧ u = σ') (tq_E dC dI cI cL cZ (wo cI cL cZ ad) A) A) ([.ref (ad 5)] : List Value).toArray s 0 0 A) (F0 m 0 ls [])) := by
    intro n
    induction n with
    | zero => exact fun _ _ _ _ h => by cases h
    | succ n ih =>
      intro  σ H locs ls hP hD hS hl h9
      obtain ⟨q9, hg, hn⟩ := tq_go_s h9 (show ¬ (0 : Nat) = tq_rt by decide)
      replace hg : bk_Mo_atoms_0 [] [] σ = some q9 := hg
      unfold bk_Mo_atoms_0 at hg
      refine lv_aload_n hx hb d_Mo_atoms_0 rfl (lv_at hl 0 rfl) ?_
      refine va_get (D := (dC, dI)) (ci := 5) (v := .int (σ.2.2 14)) (C := "TableauNodesModel") (T := F_Mo) (N := 25) hx hb hts in_Mo hown hK hP 5 rfl rfl 5 (by decide) (hts _ tw_604) (fun _ h9 => h9) rfl d_Mo_atoms_1 ?_
      exact W.iret (v := (σ.2.2 14)) hx hb hr (fun t ht hW => ⟨⟨(σ.2.2 14), σ, rfl, tq_grI hg hn, by rw [ht]; exact hP, va_K.moved hW.alike hK, hD⟩, hS.F ht⟩) hS.2.2 d_Mo_atoms_4
  exact (key n0) hP hD hS hl h0
noncomputable def bk_Mo_axiom_0 : List Int32 → List Int64 → tq_S → Option tq_C
  | [x1, x2], [], σ => tq_ob (tq_fI st_Mo_isConcept (0, [x1], [], σ)) (fun r2 σ3 => if r2 = 0 then some (tq_rt, [(-1)], [], σ3) else tq_ob (tq_fI st_Mo_isConcept (0, [x2], [], σ3)) (fun r6 σ7 => if ¬ r6 = 0 then if ¬ (σ7.2.2 15) = 30 then tq_gd (σ7.2.2 15) 30 (tq_lj (iput σ7 21 (σ7.2.2 15).toNatClampNeg x1) (fun σ11 => tq_gd (σ11.2.2 15) 30 (tq_lj (iput σ11 22 (σ11.2.2 15).toNatClampNeg x2) (fun σ13 => tq_lj (fput σ13 15 ((σ13.2.2 15) + 1)) (fun σ14 => tq_lj (fput σ14 18 0) (fun σ15 => some (tq_rt, [((σ15.2.2 15) - 1)], [], σ15))))))) else some (tq_rt, [(-3)], [], σ7) else some (tq_rt, [(-1)], [], σ7)))
  | _, _, _ => none
noncomputable def st_Mo_axiom (c : tq_C) : Option tq_C := if c.1 = 0 then bk_Mo_axiom_0 c.2.1 c.2.2.1 c.2.2.2 else none
set_option maxHeartbeats 40000000 in
set_option maxRecDepth 100000 in
theorem c_Mo_axiom (l : Launch) (dC : Nat → ClassId) (dI : Nat → Nat → Nat) (cI cL cZ : ClassId) (ad : Nat → Nat) (tt : Nat) (sz : Nat) (σ : tq_S) (a1 : Int32) (a2 : Int32) (r : Int32) (σ' : tq_S) (hf : tq_fI st_Mo_axiom (0, [a1, a2], [], σ) = some (r, σ')) : Met l y_Mo_axiom w_Mo_axiom ({ frames := 1, cells := 0, slots := 0, locals := 21 } : Room) (va_Pc [.ref (ad 5), .int a1, .int a2] (tq_B dC dI cI cL cZ tt (wo cI cL cZ ad σ) sz)) (va_Qi (fun (r' : Int32) (u : tq_S) => r' = r ∧ u = σ') (tq_E dC dI cI cL cZ (wo cI cL cZ ad) (va_A (wo cI cL cZ ad σ) sz)) (va_A (wo cI cL cZ ad σ) sz)) 0 0 (va_A (wo cI cL cZ ad σ) sz) := by
  obtain ⟨n0, h0⟩ := tq_fI_to hf
  refine Met.ofW (cc := prog_7_method_12_code) (maxL := 3) (ret := (some .int)) (by decide) rfl ?_
  intro p e s m args below meth c s₁ B hml hv
  obtain ⟨rfl, hsz, hP, hK, hD0, hZ, hN⟩ := hv
  have hx := B.exec
  have hb := B.bytes
  have hr := B.returns
  have hts : ∀ w ∈ tq_T, w.before _ s = true := fun w h => atoms_spec (ws := w_Mo_axiom) B.pre w (List.mem_cons_of_mem _ h)
  have hown : s.vm.findClass "TableauNodesModel" = some m.cls := findClass_of_methodNamed B.named
  have hlocks := B.notSynchronized
  subst hsz
  have hD := hD0.self (sz := s.heap.size)
  have hS : va_S (va_A (wo cI cL cZ ad σ) s.heap.size) s.heap s.heap [] := va_S.rf
  have hA : ∀ q : Nat, s.heap.size ≤ q → va_A (wo cI cL cZ ad σ) s.heap.size q := fun q h => Or.inr h
  generalize va_A (wo cI cL cZ ad σ) s.heap.size = A at hD hS hA hZ ⊢
  have hl := lv_entry ([.ref (ad 5), .int a1, .int a2]) (n := 3) (Nat.le_of_ble_eq_true rfl)
  rw [lg_entry_eq]
  generalize (lg_sl ([.ref (ad 5), .int a1, .int a2]) ++ List.replicate (3 - (lg_sl ([.ref (ad 5), .int a1, .int a2])).length) Slot.unset).toArray = ls at hl ⊢
  have hl : lv_has ls 3 [(0, .ref (ad 5)), (1, .int a1), (2, .int a2)] := hl
  have key : ∀ n : Nat, (∀ {x1 x2 : Int32} {σ : tq_S} {H : Heap} {locs : List Loc} {ls : Array Slot}, va_P (dC, dI) tq_cl (wo cI cL cZ ad σ) H → va_D A (wo cI cL cZ ad σ) → va_S A s.heap H locs → lv_has ls 3 [(0, .ref (ad 5)), (1, .int x1), (2, .int x2)] → tq_go st_Mo_axiom n (0, [x1, x2], [], σ) = some (tq_rt, [r], [], σ') → W p l e (headSpec w_Mo_axiom ({ frames := 1, cells := 0, slots := 0, locals := 21 } : Room)).room s m ([.ref (ad 5), .int a1, .int a2] : List Value).toArray below meth c H locs 0 0 (MQ below (va_Qi (fun (r' : Int32) (u : tq_S) => r' = r ∧ u = σ') (tq_E dC dI cI cL cZ (wo cI cL cZ ad) A) A) ([.ref (ad 5), .int a1, .int a2] : List Value).toArray s 0 0 A) (F0 m 0 ls [])) := by
    intro n
    induction n with
    | zero => exact fun _ _ _ _ h => by cases h
    | succ n ih =>
      intro x1 x2 σ H locs ls hP hD hS hl h9
      obtain ⟨q9, hg, hn⟩ := tq_go_s h9 (show ¬ (0 : Nat) = tq_rt by decide)
      replace hg : bk_Mo_axiom_0 [x1, x2] [] σ = some q9 := hg
      unfold bk_Mo_axiom_0 at hg
      refine lv_aload_n hx hb d_Mo_axiom_0 rfl (lv_at hl 0 rfl) ?_
      refine lv_iload_n hx hb d_Mo_axiom_1 rfl (lv_at hl 1 rfl) ?_
      obtain ⟨r2, σ3, f1, hg⟩ := tq_ob_s hg
      refine tq_aI (va_runV (As := [.int x1]) (rest := []) ⟨hx, hb, hml, hown, hts⟩ (c_Mo_isConcept l dC dI cI cL cZ ad tt H.size σ x1  r2 σ3 f1) (cwV 1 hts (tq_gV tw_692 tw_694 ts_34 tw_6 tw_695) rfl rfl rfl (by decide +kernel) ⟨Nat.le_of_ble_eq_true rfl, Nat.le_of_ble_eq_true rfl⟩) ⟨tq_bl, va_recv hK hP (ci := 5) (q0 := 5) rfl rfl, (tq_pr hP hK hD hS hA hZ hN)⟩ rfl rfl hl.1 rfl (lv_room (Nat.le_of_ble_eq_true rfl)) d_Mo_axiom_2 ⟨Nat.zero_le _, Nat.zero_le _⟩) hD hS hA (fun H locs hP hD hS => ?_)
      refine lv_if_eq (tgt := 16) hx hb d_Mo_axiom_5 (by decide) (fun c4 => ?_) (fun c4 => ?_)
      · replace hg := tq_if_t c4 hg
        refine lv_iconst (v := (-1)) hx hb d_Mo_axiom_16 (by decide) ?_
        exact W.iret (v := (-1)) hx hb hr (fun t ht hW => ⟨⟨(-1), σ3, rfl, tq_grI hg hn, by rw [ht]; exact hP, va_K.moved hW.alike hK, hD⟩, hS.F ht⟩) hS.2.2 d_Mo_axiom_17
      · replace hg := tq_if_f c4 hg
        refine lv_aload_n hx hb d_Mo_axiom_8 rfl (lv_at hl 0 rfl) ?_
        refine lv_iload_n hx hb d_Mo_axiom_9 rfl (lv_at hl 2 rfl) ?_
        obtain ⟨r6, σ7, f5, hg⟩ := tq_ob_s hg
        refine tq_aI (va_runV (As := [.int x2]) (rest := []) ⟨hx, hb, hml, hown, hts⟩ (c_Mo_isConcept l dC dI cI cL cZ ad tt H.size σ3 x2  r6 σ7 f5) (cwV 1 hts (tq_gV tw_692 tw_694 ts_34 tw_6 tw_695) rfl rfl rfl (by decide +kernel) ⟨Nat.le_of_ble_eq_true rfl, Nat.le_of_ble_eq_true rfl⟩) ⟨tq_bl, va_recv hK hP (ci := 5) (q0 := 5) rfl rfl, (tq_pr hP hK hD hS hA hZ hN)⟩ rfl rfl hl.1 rfl (lv_room (Nat.le_of_ble_eq_true rfl)) d_Mo_axiom_10 ⟨Nat.zero_le _, Nat.zero_le _⟩) hD hS hA (fun H locs hP hD hS => ?_)
        refine lv_if_ne (tgt := 18) hx hb d_Mo_axiom_13 (by decide) (fun c8 => ?_) (fun c8 => ?_)
        · replace hg := tq_if_t c8 hg
          refine lv_aload_n hx hb d_Mo_axiom_18 rfl (lv_at hl 0 rfl) ?_
          refine va_get (D := (dC, dI)) (ci := 5) (v := .int (σ7.2.2 15)) (C := "TableauNodesModel") (T := F_Mo) (N := 25) hx hb hts in_Mo hown hK hP 5 rfl rfl 8 (by decide) (hts _ tw_607) (fun _ h9 => h9) rfl d_Mo_axiom_19 ?_
          refine lv_bipush (v := 30) hx hb d_Mo_axiom_22 (by decide) ?_
          refine lv_icmp_ne (tgt := 30) hx hb d_Mo_axiom_24 (by decide) (fun c9 => ?_) (fun c9 => ?_)
          · replace hg := tq_if_t c9 hg
            refine lv_aload_n hx hb d_Mo_axiom_30 rfl (lv_at hl 0 rfl) ?_
            refine va_get (D := (dC, dI)) (ci := 5) (v := .ref (ad 34)) (C := "TableauNodesModel") (T := F_Mo) (N := 25) hx hb hts in_Mo hown hK hP 5 rfl rfl 6 (by decide) (hts _ tw_605) (fun _ h9 => h9) rfl d_Mo_axiom_31 ?_
            refine lv_aload_n hx hb d_Mo_axiom_34 rfl (lv_at hl 0 rfl) ?_
            refine va_get (D := (dC, dI)) (ci := 5) (v := .int (σ7.2.2 15)) (C := "TableauNodesModel") (T := F_Mo) (N := 25) hx hb hts in_Mo hown hK hP 5 rfl rfl 8 (by decide) (hts _ tw_607) (fun _ h9 => h9) rfl d_Mo_axiom_35 ?_
            refine lv_iload_n hx hb d_Mo_axiom_38 rfl (lv_at hl 1 rfl) ?_
            obtain ⟨g10, hg⟩ := tq_gd_s hg
            refine va_iast hx hb hK hP hD hS 34 0 rfl rfl g10 d_Mo_axiom_39 (fun H locs hP hD hS => ?_)
            obtain ⟨σ11, eσ11, hg⟩ := tq_lj_s hg
            replace hP : va_P (dC, dI) tq_cl (wo cI cL cZ ad σ11) H := by rw [eσ11, ← ws_i21]; exact hP
            replace hD : va_D A (wo cI cL cZ ad σ11) := by rw [eσ11, ← ws_i21]; exact hD
            refine lv_aload_n hx hb d_Mo_axiom_40 rfl (lv_at hl 0 rfl) ?_
            refine va_get (D := (dC, dI)) (ci := 5) (v := .ref (ad 35)) (C := "TableauNodesModel") (T := F_Mo) (N := 25) hx hb hts in_Mo hown hK hP 5 rfl rfl 7 (by decide) (hts _ tw_606) (fun _ h9 => h9) rfl d_Mo_axiom_41 ?_
            refine lv_aload_n hx hb d_Mo_axiom_44 rfl (lv_at hl 0 rfl) ?_
            refine va_get (D := (dC, dI)) (ci := 5) (v := .int (σ11.2.2 15)) (C := "TableauNodesModel") (T := F_Mo) (N := 25) hx hb hts in_Mo hown hK hP 5 rfl rfl 8 (by decide) (hts _ tw_607) (fun _ h9 => h9) rfl d_Mo_axiom_45 ?_
            refine lv_iload_n hx hb d_Mo_axiom_48 rfl (lv_at hl 2 rfl) ?_
            obtain ⟨g12, hg⟩ := tq_gd_s hg
            refine va_iast hx hb hK hP hD hS 35 0 rfl rfl g12 d_Mo_axiom_49 (fun H locs hP hD hS => ?_)
            obtain ⟨σ13, eσ13, hg⟩ := tq_lj_s hg
            replace hP : va_P (dC, dI) tq_cl (wo cI cL cZ ad σ13) H := by rw [eσ13, ← ws_i22]; exact hP
            replace hD : va_D A (wo cI cL cZ ad σ13) := by rw [eσ13, ← ws_i22]; exact hD
            refine lv_aload_n hx hb d_Mo_axiom_50 rfl (lv_at hl 0 rfl) ?_
            refine lv_dup hx hb d_Mo_axiom_51 rfl ?_
            refine va_get (D := (dC, dI)) (ci := 5) (v := .int (σ13.2.2 15)) (C := "TableauNodesModel") (T := F_Mo) (N := 25) hx hb hts in_Mo hown hK hP 5 rfl rfl 8 (by decide) (hts _ tw_607) (fun _ h9 => h9) rfl d_Mo_axiom_52 ?_
            refine lv_iconst (v := 1) hx hb d_Mo_axiom_55 (by decide) ?_
            refine lv_iadd hx hb d_Mo_axiom_56 ?_
            refine va_put (D := (dC, dI)) (ci := 5) (v := .int ((σ13.2.2 15) + 1)) (ty := .int) (C := "TableauNodesModel") (T := F_Mo) (N := 25) hx hb hts in_Mo ty_Mo tk_Mo nm_Mo hown hK hP hD hS 5 rfl rfl 8 (by decide) (hts _ tw_607) (fun _ h9 => h9) rfl (by decide +kernel) rfl rfl (Nat.le_of_ble_eq_true rfl) d_Mo_axiom_57 (fun H locs hP hD hS => ?_)
            obtain ⟨σ14, eσ14, hg⟩ := tq_lj_s hg
            replace hP : va_P (dC, dI) tq_cl (wo cI cL cZ ad σ14) H := by rw [eσ14, ← ws_f15]; exact hP
            replace hD : va_D A (wo cI cL cZ ad σ14) := by rw [eσ14, ← ws_f15]; exact hD
            refine lv_aload_n hx hb d_Mo_axiom_60 rfl (lv_at hl 0 rfl) ?_
            refine lv_iconst (v := 0) hx hb d_Mo_axiom_61 (by decide) ?_
            refine va_put (D := (dC, dI)) (ci := 5) (v := .int 0) (ty := .boolean) (C := "TableauNodesModel") (T := F_Mo) (N := 25) hx hb hts in_Mo ty_Mo tk_Mo nm_Mo hown hK hP hD hS 5 rfl rfl 17 (by decide) (hts _ tw_616) (fun _ h9 => h9) rfl (by decide +kernel) rfl rfl (Nat.le_of_ble_eq_true rfl) d_Mo_axiom_62 (fun H locs hP hD hS => ?_)
            obtain ⟨σ15, eσ15, hg⟩ := tq_lj_s hg
            replace hP : va_P (dC, dI) tq_cl (wo cI cL cZ ad σ15) H := by rw [eσ15, ← ws_f18]; exact hP
            replace hD : va_D A (wo cI cL cZ ad σ15) := by rw [eσ15, ← ws_f18]; exact hD
            refine lv_aload_n hx hb d_Mo_axiom_65 rfl (lv_at hl 0 rfl) ?_
            refine va_get (D := (dC, dI)) (ci := 5) (v := .int (σ15.2.2 15)) (C := "TableauNodesModel") (T := F_Mo) (N := 25) hx hb hts in_Mo hown hK hP 5 rfl rfl 8 (by decide) (hts _ tw_607) (fun _ h9 => h9) rfl d_Mo_axiom_66 ?_
            refine lv_iconst (v := 1) hx hb d_Mo_axiom_69 (by decide) ?_
            refine lv_isub hx hb d_Mo_axiom_70 ?_
            exact W.iret (v := ((σ15.2.2 15) - 1)) hx hb hr (fun t ht hW => ⟨⟨((σ15.2.2 15) - 1), σ15, rfl, tq_grI hg hn, by rw [ht]; exact hP, va_K.moved hW.alike hK, hD⟩, hS.F ht⟩) hS.2.2 d_Mo_axiom_71
          · replace hg := tq_if_n c9 hg
            refine lv_bipush (v := (-3)) hx hb d_Mo_axiom_27 (by decide) ?_
            exact W.iret (v := (-3)) hx hb hr (fun t ht hW => ⟨⟨(-3), σ7, rfl, tq_grI hg hn, by rw [ht]; exact hP, va_K.moved hW.alike hK, hD⟩, hS.F ht⟩) hS.2.2 d_Mo_axiom_29
        · replace hg := tq_if_n c8 hg
          refine lv_iconst (v := (-1)) hx hb d_Mo_axiom_16 (by decide) ?_
          exact W.iret (v := (-1)) hx hb hr (fun t ht hW => ⟨⟨(-1), σ7, rfl, tq_grI hg hn, by rw [ht]; exact hP, va_K.moved hW.alike hK, hD⟩, hS.F ht⟩) hS.2.2 d_Mo_axiom_17
  exact (key n0) hP hD hS hl h0
noncomputable def bk_Mo_drop_0 : List Int32 → List Int64 → tq_S → Option tq_C
  | [], [], σ => if ¬ (σ.2.2 15) = 0 then tq_lj (fput σ 15 ((σ.2.2 15) - 1)) (fun σ2 => tq_lj (fput σ2 18 0) (fun σ3 => some (tq_rt, [(σ3.2.2 15)], [], σ3))) else some (tq_rt, [(-2)], [], σ)
  | _, _, _ => none
noncomputable def st_Mo_drop (c : tq_C) : Option tq_C := if c.1 = 0 then bk_Mo_drop_0 c.2.1 c.2.2.1 c.2.2.2 else none
set_option maxHeartbeats 40000000 in
set_option maxRecDepth 100000 in
theorem c_Mo_drop (l : Launch) (dC : Nat → ClassId) (dI : Nat → Nat → Nat) (cI cL cZ : ClassId) (ad : Nat → Nat) (tt : Nat) (sz : Nat) (σ : tq_S) (r : Int32) (σ' : tq_S) (hf : tq_fI st_Mo_drop (0, [], [], σ) = some (r, σ')) : Met l y_Mo_drop w_Mo_drop ({ frames := 0, cells := 0, slots := 0, locals := 0 } : Room) (va_Pc [.ref (ad 5)] (tq_B dC dI cI cL cZ tt (wo cI cL cZ ad σ) sz)) (va_Qi (fun (r' : Int32) (u : tq_S) => r' = r ∧ u = σ') (tq_E dC dI cI cL cZ (wo cI cL cZ ad) (va_A (wo cI cL cZ ad σ) sz)) (va_A (wo cI cL cZ ad σ) sz)) 0 0 (va_A (wo cI cL cZ ad σ) sz) := by
  obtain ⟨n0, h0⟩ := tq_fI_to hf
  refine Met.ofW (cc := prog_7_method_13_code) (maxL := 1) (ret := (some .int)) (by decide) rfl ?_
  intro p e s m args below meth c s₁ B hml hv
  obtain ⟨rfl, hsz, hP, hK, hD0, hZ, hN⟩ := hv
  have hx := B.exec
  have hb := B.bytes
  have hr := B.returns
  have hts : ∀ w ∈ tq_T, w.before _ s = true := fun w h => atoms_spec (ws := w_Mo_drop) B.pre w (List.mem_cons_of_mem _ h)
  have hown : s.vm.findClass "TableauNodesModel" = some m.cls := findClass_of_methodNamed B.named
  have hlocks := B.notSynchronized
  subst hsz
  have hD := hD0.self (sz := s.heap.size)
  have hS : va_S (va_A (wo cI cL cZ ad σ) s.heap.size) s.heap s.heap [] := va_S.rf
  have hA : ∀ q : Nat, s.heap.size ≤ q → va_A (wo cI cL cZ ad σ) s.heap.size q := fun q h => Or.inr h
  generalize va_A (wo cI cL cZ ad σ) s.heap.size = A at hD hS hA hZ ⊢
  have hl := lv_entry ([.ref (ad 5)]) (n := 1) (Nat.le_of_ble_eq_true rfl)
  rw [lg_entry_eq]
  generalize (lg_sl ([.ref (ad 5)]) ++ List.replicate (1 - (lg_sl ([.ref (ad 5)])).length) Slot.unset).toArray = ls at hl ⊢
  have hl : lv_has ls 1 [(0, .ref (ad 5))] := hl
  have key : ∀ n : Nat, (∀ {σ : tq_S} {H : Heap} {locs : List Loc} {ls : Array Slot}, va_P (dC, dI) tq_cl (wo cI cL cZ ad σ) H → va_D A (wo cI cL cZ ad σ) → va_S A s.heap H locs → lv_has ls 1 [(0, .ref (ad 5))] → tq_go st_Mo_drop n (0, [], [], σ) = some (tq_rt, [r], [], σ') → W p l e (headSpec w_Mo_drop ({ frames := 0, cells := 0, slots := 0, locals := 0 } : Room)).room s m ([.ref (ad 5)] : List Value).toArray below meth c H locs 0 0 (MQ below (va_Qi (fun (r' : Int32) (u : tq_S) => r' = r ∧ u = σ') (tq_E dC dI cI cL cZ (wo cI cL cZ ad) A) A) ([.ref (ad 5)] : List Value).toArray s 0 0 A) (F0 m 0 ls [])) := by
    intro n
    induction n with
    | zero => exact fun _ _ _ _ h => by cases h
    | succ n ih =>
      intro  σ H locs ls hP hD hS hl h9
      obtain ⟨q9, hg, hn⟩ := tq_go_s h9 (show ¬ (0 : Nat) = tq_rt by decide)
      replace hg : bk_Mo_drop_0 [] [] σ = some q9 := hg
      unfold bk_Mo_drop_0 at hg
      refine lv_aload_n hx hb d_Mo_drop_0 rfl (lv_at hl 0 rfl) ?_
      refine va_get (D := (dC, dI)) (ci := 5) (v := .int (σ.2.2 15)) (C := "TableauNodesModel") (T := F_Mo) (N := 25) hx hb hts in_Mo hown hK hP 5 rfl rfl 8 (by decide) (hts _ tw_607) (fun _ h9 => h9) rfl d_Mo_drop_1 ?_
      refine lv_if_ne (tgt := 10) hx hb d_Mo_drop_4 (by decide) (fun c1 => ?_) (fun c1 => ?_)
      · replace hg := tq_if_t c1 hg
        refine lv_aload_n hx hb d_Mo_drop_10 rfl (lv_at hl 0 rfl) ?_
        refine lv_dup hx hb d_Mo_drop_11 rfl ?_
        refine va_get (D := (dC, dI)) (ci := 5) (v := .int (σ.2.2 15)) (C := "TableauNodesModel") (T := F_Mo) (N := 25) hx hb hts in_Mo hown hK hP 5 rfl rfl 8 (by decide) (hts _ tw_607) (fun _ h9 => h9) rfl d_Mo_drop_12 ?_
        refine lv_iconst (v := 1) hx hb d_Mo_drop_15 (by decide) ?_
        refine lv_isub hx hb d_Mo_drop_16 ?_
        refine va_put (D := (dC, dI)) (ci := 5) (v := .int ((σ.2.2 15) - 1)) (ty := .int) (C := "TableauNodesModel") (T := F_Mo) (N := 25) hx hb hts in_Mo ty_Mo tk_Mo nm_Mo hown hK hP hD hS 5 rfl rfl 8 (by decide) (hts _ tw_607) (fun _ h9 => h9) rfl (by decide +kernel) rfl rfl (Nat.le_of_ble_eq_true rfl) d_Mo_drop_17 (fun H locs hP hD hS => ?_)
        obtain ⟨σ2, eσ2, hg⟩ := tq_lj_s hg
        replace hP : va_P (dC, dI) tq_cl (wo cI cL cZ ad σ2) H := by rw [eσ2, ← ws_f15]; exact hP
        replace hD : va_D A (wo cI cL cZ ad σ2) := by rw [eσ2, ← ws_f15]; exact hD
        refine lv_aload_n hx hb d_Mo_drop_20 rfl (lv_at hl 0 rfl) ?_
        refine lv_iconst (v := 0) hx hb d_Mo_drop_21 (by decide) ?_
        refine va_put (D := (dC, dI)) (ci := 5) (v := .int 0) (ty := .boolean) (C := "TableauNodesModel") (T := F_Mo) (N := 25) hx hb hts in_Mo ty_Mo tk_Mo nm_Mo hown hK hP hD hS 5 rfl rfl 17 (by decide) (hts _ tw_616) (fun _ h9 => h9) rfl (by decide +kernel) rfl rfl (Nat.le_of_ble_eq_true rfl) d_Mo_drop_22 (fun H locs hP hD hS => ?_)
        obtain ⟨σ3, eσ3, hg⟩ := tq_lj_s hg
        replace hP : va_P (dC, dI) tq_cl (wo cI cL cZ ad σ3) H := by rw [eσ3, ← ws_f18]; exact hP
        replace hD : va_D A (wo cI cL cZ ad σ3) := by rw [eσ3, ← ws_f18]; exact hD
        refine lv_aload_n hx hb d_Mo_drop_25 rfl (lv_at hl 0 rfl) ?_
        refine va_get (D := (dC, dI)) (ci := 5) (v := .int (σ3.2.2 15)) (C := "TableauNodesModel") (T := F_Mo) (N := 25) hx hb hts in_Mo hown hK hP 5 rfl rfl 8 (by decide) (hts _ tw_607) (fun _ h9 => h9) rfl d_Mo_drop_26 ?_
        exact W.iret (v := (σ3.2.2 15)) hx hb hr (fun t ht hW => ⟨⟨(σ3.2.2 15), σ3, rfl, tq_grI hg hn, by rw [ht]; exact hP, va_K.moved hW.alike hK, hD⟩, hS.F ht⟩) hS.2.2 d_Mo_drop_29
      · replace hg := tq_if_n c1 hg
        refine lv_bipush (v := (-2)) hx hb d_Mo_drop_7 (by decide) ?_
        exact W.iret (v := (-2)) hx hb hr (fun t ht hW => ⟨⟨(-2), σ, rfl, tq_grI hg hn, by rw [ht]; exact hP, va_K.moved hW.alike hK, hD⟩, hS.F ht⟩) hS.2.2 d_Mo_drop_9
  exact (key n0) hP hD hS hl h0
noncomputable def bk_Mo_role_0 : List Int32 → List Int64 → tq_S → Option tq_C
  | [x1, x2], [], σ => tq_ob (tq_fI st_Mo_isRole (0, [x1], [], σ)) (fun r2 σ3 => if r2 = 0 then some (tq_rt, [(-1)], [], σ3) else tq_ob (tq_fI st_Mo_isRole (0, [x2], [], σ3)) (fun r6 σ7 => if ¬ r6 = 0 then tq_gd ((4 * x1) + x2) 16 (if (ia σ7 23 ((4 * x1) + x2)) = 0 then tq_gd ((4 * x1) + x2) 16 (tq_lj (iput σ7 23 ((4 * x1) + x2).toNatClampNeg (jz 1)) (fun σ12 => tq_lj (fput σ12 18 0) (fun σ13 => some (tq_rt, [1], [], σ13)))) else some (tq_rt, [0], [], σ7)) else some (tq_rt, [(-1)], [], σ7)))
  | _, _, _ => none
noncomputable def st_Mo_role (c : tq_C) : Option tq_C := if c.1 = 0 then bk_Mo_role_0 c.2.1 c.2.2.1 c.2.2.2 else none
set_option maxHeartbeats 40000000 in
set_option maxRecDepth 100000 in
theorem c_Mo_role (l : Launch) (dC : Nat → ClassId) (dI : Nat → Nat → Nat) (cI cL cZ : ClassId) (ad : Nat → Nat) (tt : Nat) (sz : Nat) (σ : tq_S) (a1 : Int32) (a2 : Int32) (r : Int32) (σ' : tq_S) (hf : tq_fI st_Mo_role (0, [a1, a2], [], σ) = some (r, σ')) : Met l y_Mo_role w_Mo_role ({ frames := 1, cells := 0, slots := 0, locals := 20 } : Room) (va_Pc [.ref (ad 5), .int a1, .int a2] (tq_B dC dI cI cL cZ tt (wo cI cL cZ ad σ) sz)) (va_Qi (fun (r' : Int32) (u : tq_S) => r' = r ∧ u = σ') (tq_E dC dI cI cL cZ (wo cI cL cZ ad) (va_A (wo cI cL cZ ad σ) sz)) (va_A (wo cI cL cZ ad σ) sz)) 0 0 (va_A (wo cI cL cZ ad σ) sz) := by
  obtain ⟨n0, h0⟩ := tq_fI_to hf
  refine Met.ofW (cc := prog_7_method_14_code) (maxL := 3) (ret := (some .int)) (by decide) rfl ?_
  intro p e s m args below meth c s₁ B hml hv
  obtain ⟨rfl, hsz, hP, hK, hD0, hZ, hN⟩ := hv
  have hx := B.exec
  have hb := B.bytes
  have hr := B.returns
  have hts : ∀ w ∈ tq_T, w.before _ s = true := fun w h => atoms_spec (ws := w_Mo_role) B.pre w (List.mem_cons_of_mem _ h)
  have hown : s.vm.findClass "TableauNodesModel" = some m.cls := findClass_of_methodNamed B.named
  have hlocks := B.notSynchronized
  subst hsz
  have hD := hD0.self (sz := s.heap.size)
  have hS : va_S (va_A (wo cI cL cZ ad σ) s.heap.size) s.heap s.heap [] := va_S.rf
  have hA : ∀ q : Nat, s.heap.size ≤ q → va_A (wo cI cL cZ ad σ) s.heap.size q := fun q h => Or.inr h
  generalize va_A (wo cI cL cZ ad σ) s.heap.size = A at hD hS hA hZ ⊢
  have hl := lv_entry ([.ref (ad 5), .int a1, .int a2]) (n := 3) (Nat.le_of_ble_eq_true rfl)
  rw [lg_entry_eq]
  generalize (lg_sl ([.ref (ad 5), .int a1, .int a2]) ++ List.replicate (3 - (lg_sl ([.ref (ad 5), .int a1, .int a2])).length) Slot.unset).toArray = ls at hl ⊢
  have hl : lv_has ls 3 [(0, .ref (ad 5)), (1, .int a1), (2, .int a2)] := hl
  have key : ∀ n : Nat, (∀ {x1 x2 : Int32} {σ : tq_S} {H : Heap} {locs : List Loc} {ls : Array Slot}, va_P (dC, dI) tq_cl (wo cI cL cZ ad σ) H → va_D A (wo cI cL cZ ad σ) → va_S A s.heap H locs → lv_has ls 3 [(0, .ref (ad 5)), (1, .int x1), (2, .int x2)] → tq_go st_Mo_role n (0, [x1, x2], [], σ) = some (tq_rt, [r], [], σ') → W p l e (headSpec w_Mo_role ({ frames := 1, cells := 0, slots := 0, locals := 20 } : Room)).room s m ([.ref (ad 5), .int a1, .int a2] : List Value).toArray below meth c H locs 0 0 (MQ below (va_Qi (fun (r' : Int32) (u : tq_S) => r' = r ∧ u = σ') (tq_E dC dI cI cL cZ (wo cI cL cZ ad) A) A) ([.ref (ad 5), .int a1, .int a2] : List Value).toArray s 0 0 A) (F0 m 0 ls [])) := by
    intro n
    induction n with
    | zero => exact fun _ _ _ _ h => by cases h
    | succ n ih =>
      intro x1 x2 σ H locs ls hP hD hS hl h9
      obtain ⟨q9, hg, hn⟩ := tq_go_s h9 (show ¬ (0 : Nat) = tq_rt by decide)
      replace hg : bk_Mo_role_0 [x1, x2] [] σ = some q9 := hg
      unfold bk_Mo_role_0 at hg
      refine lv_iload_n hx hb d_Mo_role_0 rfl (lv_at hl 1 rfl) ?_
      obtain ⟨r2, σ3, f1, hg⟩ := tq_ob_s hg
      refine tq_aI (va_runS (As := [.int x1]) (rest := []) ⟨hx, hb, hml, hown, hts⟩ (c_Mo_isRole l dC dI cI cL cZ ad tt H.size σ x1  r2 σ3 f1) (va_cwS 1 hts (tq_gS tw_696 tw_697 tw_6 tw_698) rfl rfl rfl (by decide +kernel) ⟨Nat.le_of_ble_eq_true rfl, Nat.le_of_ble_eq_true rfl⟩) ⟨tq_bl, (tq_pr hP hK hD hS hA hZ hN)⟩ rfl rfl hl.1 rfl (lv_room (Nat.le_of_ble_eq_true rfl)) d_Mo_role_1 ⟨Nat.zero_le _, Nat.zero_le _⟩) hD hS hA (fun H locs hP hD hS => ?_)
      refine lv_if_eq (tgt := 14) hx hb d_Mo_role_4 (by decide) (fun c4 => ?_) (fun c4 => ?_)
      · replace hg := tq_if_t c4 hg
        refine lv_iconst (v := (-1)) hx hb d_Mo_role_14 (by decide) ?_
        exact W.iret (v := (-1)) hx hb hr (fun t ht hW => ⟨⟨(-1), σ3, rfl, tq_grI hg hn, by rw [ht]; exact hP, va_K.moved hW.alike hK, hD⟩, hS.F ht⟩) hS.2.2 d_Mo_role_15
      · replace hg := tq_if_f c4 hg
        refine lv_iload_n hx hb d_Mo_role_7 rfl (lv_at hl 2 rfl) ?_
        obtain ⟨r6, σ7, f5, hg⟩ := tq_ob_s hg
        refine tq_aI (va_runS (As := [.int x2]) (rest := []) ⟨hx, hb, hml, hown, hts⟩ (c_Mo_isRole l dC dI cI cL cZ ad tt H.size σ3 x2  r6 σ7 f5) (va_cwS 1 hts (tq_gS tw_696 tw_697 tw_6 tw_698) rfl rfl rfl (by decide +kernel) ⟨Nat.le_of_ble_eq_true rfl, Nat.le_of_ble_eq_true rfl⟩) ⟨tq_bl, (tq_pr hP hK hD hS hA hZ hN)⟩ rfl rfl hl.1 rfl (lv_room (Nat.le_of_ble_eq_true rfl)) d_Mo_role_8 ⟨Nat.zero_le _, Nat.zero_le _⟩) hD hS hA (fun H locs hP hD hS => ?_)
        refine lv_if_ne (tgt := 16) hx hb d_Mo_role_11 (by decide) (fun c8 => ?_) (fun c8 => ?_)
        · replace hg := tq_if_t c8 hg
          refine lv_aload_n hx hb d_Mo_role_16 rfl (lv_at hl 0 rfl) ?_
          refine va_get (D := (dC, dI)) (ci := 5) (v := .ref (ad 36)) (C := "TableauNodesModel") (T := F_Mo) (N := 25) hx hb hts in_Mo hown hK hP 5 rfl rfl 9 (by decide) (hts _ tw_608) (fun _ h9 => h9) rfl d_Mo_role_17 ?_
          refine lv_iconst (v := 4) hx hb d_Mo_role_20 (by decide) ?_
          refine lv_iload_n hx hb d_Mo_role_21 rfl (lv_at hl 1 rfl) ?_
          refine lv_imul hx hb d_Mo_role_22 ?_
          refine lv_iload_n hx hb d_Mo_role_23 rfl (lv_at hl 2 rfl) ?_
          refine lv_iadd hx hb d_Mo_role_24 ?_
          obtain ⟨g9, hg⟩ := tq_gd_s hg
          refine va_zald hx hb hK hP 36 2 rfl rfl g9 d_Mo_role_25 ?_
          refine lv_if_eq (tgt := 31) hx hb d_Mo_role_26 (by decide) (fun c10 => ?_) (fun c10 => ?_)
          · replace hg := tq_if_t c10 hg
            refine lv_aload_n hx hb d_Mo_role_31 rfl (lv_at hl 0 rfl) ?_
            refine va_get (D := (dC, dI)) (ci := 5) (v := .ref (ad 36)) (C := "TableauNodesModel") (T := F_Mo) (N := 25) hx hb hts in_Mo hown hK hP 5 rfl rfl 9 (by decide) (hts _ tw_608) (fun _ h9 => h9) rfl d_Mo_role_32 ?_
            refine lv_iconst (v := 4) hx hb d_Mo_role_35 (by decide) ?_
            refine lv_iload_n hx hb d_Mo_role_36 rfl (lv_at hl 1 rfl) ?_
            refine lv_imul hx hb d_Mo_role_37 ?_
            refine lv_iload_n hx hb d_Mo_role_38 rfl (lv_at hl 2 rfl) ?_
            refine lv_iadd hx hb d_Mo_role_39 ?_
            refine lv_iconst (v := 1) hx hb d_Mo_role_40 (by decide) ?_
            obtain ⟨g11, hg⟩ := tq_gd_s hg
            refine va_zast hx hb hK hP hD hS 36 2 rfl rfl g11 d_Mo_role_41 (fun H locs hP hD hS => ?_)
            obtain ⟨σ12, eσ12, hg⟩ := tq_lj_s hg
            replace hP : va_P (dC, dI) tq_cl (wo cI cL cZ ad σ12) H := by rw [eσ12, ← ws_i23]; exact hP
            replace hD : va_D A (wo cI cL cZ ad σ12) := by rw [eσ12, ← ws_i23]; exact hD
            refine lv_aload_n hx hb d_Mo_role_42 rfl (lv_at hl 0 rfl) ?_
            refine lv_iconst (v := 0) hx hb d_Mo_role_43 (by decide) ?_
            refine va_put (D := (dC, dI)) (ci := 5) (v := .int 0) (ty := .boolean) (C := "TableauNodesModel") (T := F_Mo) (N := 25) hx hb hts in_Mo ty_Mo tk_Mo nm_Mo hown hK hP hD hS 5 rfl rfl 17 (by decide) (hts _ tw_616) (fun _ h9 => h9) rfl (by decide +kernel) rfl rfl (Nat.le_of_ble_eq_true rfl) d_Mo_role_44 (fun H locs hP hD hS => ?_)
            obtain ⟨σ13, eσ13, hg⟩ := tq_lj_s hg
            replace hP : va_P (dC, dI) tq_cl (wo cI cL cZ ad σ13) H := by rw [eσ13, ← ws_f18]; exact hP
            replace hD : va_D A (wo cI cL cZ ad σ13) := by rw [eσ13, ← ws_f18]; exact hD
            refine lv_iconst (v := 1) hx hb d_Mo_role_47 (by decide) ?_
            exact W.iret (v := 1) hx hb hr (fun t ht hW => ⟨⟨1, σ13, rfl, tq_grI hg hn, by rw [ht]; exact hP, va_K.moved hW.alike hK, hD⟩, hS.F ht⟩) hS.2.2 d_Mo_role_48
          · replace hg := tq_if_f c10 hg
            refine lv_iconst (v := 0) hx hb d_Mo_role_29 (by decide) ?_
            exact W.iret (v := 0) hx hb hr (fun t ht hW => ⟨⟨0, σ7, rfl, tq_grI hg hn, by rw [ht]; exact hP, va_K.moved hW.alike hK, hD⟩, hS.F ht⟩) hS.2.2 d_Mo_role_30
        · replace hg := tq_if_n c8 hg
          refine lv_iconst (v := (-1)) hx hb d_Mo_role_14 (by decide) ?_
          exact W.iret (v := (-1)) hx hb hr (fun t ht hW => ⟨⟨(-1), σ7, rfl, tq_grI hg hn, by rw [ht]; exact hP, va_K.moved hW.alike hK, hD⟩, hS.F ht⟩) hS.2.2 d_Mo_role_15
  exact (key n0) hP hD hS hl h0
