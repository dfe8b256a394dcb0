theorem d_Th_leaveHalf_0 : decode prog_5_method_22_code 0 = .ok (.iconst 0, 1) := by decide +kernel
theorem d_Th_leaveHalf_1 : decode prog_5_method_22_code 1 = .ok (.istore 4, 2) := by decide +kernel
theorem d_Th_leaveHalf_3 : decode prog_5_method_22_code 3 = .ok (.iload 4, 2) := by decide +kernel
theorem d_Th_leaveHalf_5 : decode prog_5_method_22_code 5 = .ok (.aload_n 0, 1) := by decide +kernel
theorem d_Th_leaveHalf_6 : decode prog_5_method_22_code 6 = .ok (.getfield 102, 3) := by decide +kernel
theorem d_Th_leaveHalf_9 : decode prog_5_method_22_code 9 = .ok (.if_icmp .ge 51, 3) := by decide +kernel
theorem d_Th_leaveHalf_12 : decode prog_5_method_22_code 12 = .ok (.aload_n 0, 1) := by decide +kernel
theorem d_Th_leaveHalf_13 : decode prog_5_method_22_code 13 = .ok (.getfield 34, 3) := by decide +kernel
theorem d_Th_leaveHalf_16 : decode prog_5_method_22_code 16 = .ok (.iload_n 2, 1) := by decide +kernel
theorem d_Th_leaveHalf_17 : decode prog_5_method_22_code 17 = .ok (.iload 4, 2) := by decide +kernel
theorem d_Th_leaveHalf_19 : decode prog_5_method_22_code 19 = .ok (.invokevirtual 130, 3) := by decide +kernel
theorem d_Th_leaveHalf_22 : decode prog_5_method_22_code 22 = .ok (.lstore 5, 2) := by decide +kernel
theorem d_Th_leaveHalf_24 : decode prog_5_method_22_code 24 = .ok (.aload_n 0, 1) := by decide +kernel
theorem d_Th_leaveHalf_25 : decode prog_5_method_22_code 25 = .ok (.getfield 22, 3) := by decide +kernel
theorem d_Th_leaveHalf_28 : decode prog_5_method_22_code 28 = .ok (.iload_n 1, 1) := by decide +kernel
theorem d_Th_leaveHalf_29 : decode prog_5_method_22_code 29 = .ok (.bipush 16, 2) := by decide +kernel
theorem d_Th_leaveHalf_31 : decode prog_5_method_22_code 31 = .ok (.imul, 1) := by decide +kernel
theorem d_Th_leaveHalf_32 : decode prog_5_method_22_code 32 = .ok (.iload 4, 2) := by decide +kernel
theorem d_Th_leaveHalf_34 : decode prog_5_method_22_code 34 = .ok (.iadd, 1) := by decide +kernel
theorem d_Th_leaveHalf_35 : decode prog_5_method_22_code 35 = .ok (.dup2, 1) := by decide +kernel
theorem d_Th_leaveHalf_36 : decode prog_5_method_22_code 36 = .ok (.laload, 1) := by decide +kernel
theorem d_Th_leaveHalf_37 : decode prog_5_method_22_code 37 = .ok (.iload_n 3, 1) := by decide +kernel
theorem d_Th_leaveHalf_38 : decode prog_5_method_22_code 38 = .ok (.ifCond .eq 8, 3) := by decide +kernel
theorem d_Th_leaveHalf_41 : decode prog_5_method_22_code 41 = .ok (.lload 5, 2) := by decide +kernel
theorem d_Th_leaveHalf_43 : decode prog_5_method_22_code 43 = .ok (.goto 9, 3) := by decide +kernel
theorem d_Th_leaveHalf_46 : decode prog_5_method_22_code 46 = .ok (.lload 5, 2) := by decide +kernel
theorem d_Th_leaveHalf_48 : decode prog_5_method_22_code 48 = .ok (.ldc2_w 105, 3) := by decide +kernel
theorem d_Th_leaveHalf_51 : decode prog_5_method_22_code 51 = .ok (.lxor, 1) := by decide +kernel
theorem d_Th_leaveHalf_52 : decode prog_5_method_22_code 52 = .ok (.land, 1) := by decide +kernel
theorem d_Th_leaveHalf_53 : decode prog_5_method_22_code 53 = .ok (.lastore, 1) := by decide +kernel
theorem d_Th_leaveHalf_54 : decode prog_5_method_22_code 54 = .ok (.iinc 4 1, 3) := by decide +kernel
theorem d_Th_leaveHalf_57 : decode prog_5_method_22_code 57 = .ok (.goto (-54), 3) := by decide +kernel
theorem d_Th_leaveHalf_60 : decode prog_5_method_22_code 60 = .ok (.return_, 1) := by decide +kernel
theorem d_Th_leaveLeast_0 : decode prog_5_method_21_code 0 = .ok (.aload_n 0, 1) := by decide +kernel
theorem d_Th_leaveLeast_1 : decode prog_5_method_21_code 1 = .ok (.getfield 34, 3) := by decide +kernel
theorem d_Th_leaveLeast_4 : decode prog_5_method_21_code 4 = .ok (.invokevirtual 179, 3) := by decide +kernel
theorem d_Th_leaveLeast_7 : decode prog_5_method_21_code 7 = .ok (.iconst 1, 1) := by decide +kernel
theorem d_Th_leaveLeast_8 : decode prog_5_method_21_code 8 = .ok (.isub, 1) := by decide +kernel
theorem d_Th_leaveLeast_9 : decode prog_5_method_21_code 9 = .ok (.istore_n 2, 1) := by decide +kernel
theorem d_Th_leaveLeast_10 : decode prog_5_method_21_code 10 = .ok (.iload_n 2, 1) := by decide +kernel
theorem d_Th_leaveLeast_11 : decode prog_5_method_21_code 11 = .ok (.ifCond .lt 64, 3) := by decide +kernel
theorem d_Th_leaveLeast_14 : decode prog_5_method_21_code 14 = .ok (.aload_n 0, 1) := by decide +kernel
theorem d_Th_leaveLeast_15 : decode prog_5_method_21_code 15 = .ok (.iconst 0, 1) := by decide +kernel
theorem d_Th_leaveLeast_16 : decode prog_5_method_21_code 16 = .ok (.iload_n 1, 1) := by decide +kernel
theorem d_Th_leaveLeast_17 : decode prog_5_method_21_code 17 = .ok (.invokevirtual 157, 3) := by decide +kernel
theorem d_Th_leaveLeast_20 : decode prog_5_method_21_code 20 = .ok (.istore_n 3, 1) := by decide +kernel
theorem d_Th_leaveLeast_21 : decode prog_5_method_21_code 21 = .ok (.aload_n 0, 1) := by decide +kernel
theorem d_Th_leaveLeast_22 : decode prog_5_method_21_code 22 = .ok (.iload_n 1, 1) := by decide +kernel
theorem d_Th_leaveLeast_23 : decode prog_5_method_21_code 23 = .ok (.invokevirtual 173, 3) := by decide +kernel
theorem d_Th_leaveLeast_26 : decode prog_5_method_21_code 26 = .ok (.aload_n 0, 1) := by decide +kernel
theorem d_Th_leaveLeast_27 : decode prog_5_method_21_code 27 = .ok (.iload_n 1, 1) := by decide +kernel
theorem d_Th_leaveLeast_28 : decode prog_5_method_21_code 28 = .ok (.iload_n 2, 1) := by decide +kernel
theorem d_Th_leaveLeast_29 : decode prog_5_method_21_code 29 = .ok (.iconst 0, 1) := by decide +kernel
theorem d_Th_leaveLeast_30 : decode prog_5_method_21_code 30 = .ok (.invokevirtual 182, 3) := by decide +kernel
theorem d_Th_leaveLeast_33 : decode prog_5_method_21_code 33 = .ok (.aload_n 0, 1) := by decide +kernel
theorem d_Th_leaveLeast_34 : decode prog_5_method_21_code 34 = .ok (.iconst 0, 1) := by decide +kernel
theorem d_Th_leaveLeast_35 : decode prog_5_method_21_code 35 = .ok (.iload_n 1, 1) := by decide +kernel
theorem d_Th_leaveLeast_36 : decode prog_5_method_21_code 36 = .ok (.invokevirtual 157, 3) := by decide +kernel
theorem d_Th_leaveLeast_39 : decode prog_5_method_21_code 39 = .ok (.istore 4, 2) := by decide +kernel
theorem d_Th_leaveLeast_41 : decode prog_5_method_21_code 41 = .ok (.iload 4, 2) := by decide +kernel
theorem d_Th_leaveLeast_43 : decode prog_5_method_21_code 43 = .ok (.iload_n 3, 1) := by decide +kernel
theorem d_Th_leaveLeast_44 : decode prog_5_method_21_code 44 = .ok (.if_icmp .eq 25, 3) := by decide +kernel
theorem d_Th_leaveLeast_47 : decode prog_5_method_21_code 47 = .ok (.aload_n 0, 1) := by decide +kernel
theorem d_Th_leaveLeast_48 : decode prog_5_method_21_code 48 = .ok (.iconst 0, 1) := by decide +kernel
theorem d_Th_leaveLeast_49 : decode prog_5_method_21_code 49 = .ok (.bipush 31, 2) := by decide +kernel
theorem d_Th_leaveLeast_51 : decode prog_5_method_21_code 51 = .ok (.invokevirtual 81, 3) := by decide +kernel
theorem d_Th_leaveLeast_54 : decode prog_5_method_21_code 54 = .ok (.ifCond .ne 15, 3) := by decide +kernel
theorem d_Th_leaveLeast_57 : decode prog_5_method_21_code 57 = .ok (.aload_n 0, 1) := by decide +kernel
theorem d_Th_leaveLeast_58 : decode prog_5_method_21_code 58 = .ok (.iload_n 1, 1) := by decide +kernel
theorem d_Th_leaveLeast_59 : decode prog_5_method_21_code 59 = .ok (.invokevirtual 176, 3) := by decide +kernel
theorem d_Th_leaveLeast_62 : decode prog_5_method_21_code 62 = .ok (.aload_n 0, 1) := by decide +kernel
theorem d_Th_leaveLeast_63 : decode prog_5_method_21_code 63 = .ok (.iload_n 1, 1) := by decide +kernel
theorem d_Th_leaveLeast_64 : decode prog_5_method_21_code 64 = .ok (.iload_n 2, 1) := by decide +kernel
theorem d_Th_leaveLeast_65 : decode prog_5_method_21_code 65 = .ok (.iconst 1, 1) := by decide +kernel
theorem d_Th_leaveLeast_66 : decode prog_5_method_21_code 66 = .ok (.invokevirtual 182, 3) := by decide +kernel
theorem d_Th_leaveLeast_69 : decode prog_5_method_21_code 69 = .ok (.iinc 2 (-1), 3) := by decide +kernel
theorem d_Th_leaveLeast_72 : decode prog_5_method_21_code 72 = .ok (.goto (-62), 3) := by decide +kernel
theorem d_Th_leaveLeast_75 : decode prog_5_method_21_code 75 = .ok (.return_, 1) := by decide +kernel
theorem d_Th_settle_0 : decode prog_5_method_5_code 0 = .ok (.aload_n 0, 1) := by decide +kernel
theorem d_Th_settle_1 : decode prog_5_method_5_code 1 = .ok (.getfield 59, 3) := by decide +kernel
theorem d_Th_settle_4 : decode prog_5_method_5_code 4 = .ok (.ifCond .ne 18, 3) := by decide +kernel
theorem d_Th_settle_7 : decode prog_5_method_5_code 7 = .ok (.aload_n 0, 1) := by decide +kernel
theorem d_Th_settle_8 : decode prog_5_method_5_code 8 = .ok (.getfield 66, 3) := by decide +kernel
theorem d_Th_settle_11 : decode prog_5_method_5_code 11 = .ok (.aload_n 0, 1) := by decide +kernel
theorem d_Th_settle_12 : decode prog_5_method_5_code 12 = .ok (.getfield 38, 3) := by decide +kernel
theorem d_Th_settle_15 : decode prog_5_method_5_code 15 = .ok (.invokevirtual 69, 3) := by decide +kernel
theorem d_Th_settle_18 : decode prog_5_method_5_code 18 = .ok (.if_icmp .ne 4, 3) := by decide +kernel
theorem d_Th_settle_21 : decode prog_5_method_5_code 21 = .ok (.return_, 1) := by decide +kernel
theorem d_Th_settle_22 : decode prog_5_method_5_code 22 = .ok (.aload_n 0, 1) := by decide +kernel
theorem d_Th_settle_23 : decode prog_5_method_5_code 23 = .ok (.invokevirtual 75, 3) := by decide +kernel
theorem d_Th_settle_26 : decode prog_5_method_5_code 26 = .ok (.aload_n 0, 1) := by decide +kernel
theorem d_Th_settle_27 : decode prog_5_method_5_code 27 = .ok (.invokevirtual 78, 3) := by decide +kernel
theorem d_Th_settle_30 : decode prog_5_method_5_code 30 = .ok (.aload_n 0, 1) := by decide +kernel
theorem d_Th_settle_31 : decode prog_5_method_5_code 31 = .ok (.aload_n 0, 1) := by decide +kernel
theorem d_Th_settle_32 : decode prog_5_method_5_code 32 = .ok (.iconst 0, 1) := by decide +kernel
theorem d_Th_settle_33 : decode prog_5_method_5_code 33 = .ok (.bipush 31, 2) := by decide +kernel
theorem d_Th_settle_35 : decode prog_5_method_5_code 35 = .ok (.invokevirtual 81, 3) := by decide +kernel
theorem d_Th_settle_38 : decode prog_5_method_5_code 38 = .ok (.putfield 84, 3) := by decide +kernel
theorem d_Th_settle_41 : decode prog_5_method_5_code 41 = .ok (.iconst 0, 1) := by decide +kernel
theorem d_Th_settle_42 : decode prog_5_method_5_code 42 = .ok (.istore_n 1, 1) := by decide +kernel
theorem d_Th_settle_43 : decode prog_5_method_5_code 43 = .ok (.iload_n 1, 1) := by decide +kernel
theorem d_Th_settle_44 : decode prog_5_method_5_code 44 = .ok (.iconst 5, 1) := by decide +kernel
theorem d_Th_settle_45 : decode prog_5_method_5_code 45 = .ok (.if_icmp .ge 52, 3) := by decide +kernel
theorem d_Th_settle_48 : decode prog_5_method_5_code 48 = .ok (.aload_n 0, 1) := by decide +kernel
theorem d_Th_settle_49 : decode prog_5_method_5_code 49 = .ok (.getfield 84, 3) := by decide +kernel
theorem d_Th_settle_52 : decode prog_5_method_5_code 52 = .ok (.ifCond .eq 16, 3) := by decide +kernel
theorem d_Th_settle_55 : decode prog_5_method_5_code 55 = .ok (.aload_n 0, 1) := by decide +kernel
theorem d_Th_settle_56 : decode prog_5_method_5_code 56 = .ok (.iload_n 1, 1) := by decide +kernel
theorem d_Th_settle_57 : decode prog_5_method_5_code 57 = .ok (.invokevirtual 87, 3) := by decide +kernel
theorem d_Th_settle_60 : decode prog_5_method_5_code 60 = .ok (.ifCond .ne 8, 3) := by decide +kernel
theorem d_Th_settle_63 : decode prog_5_method_5_code 63 = .ok (.aload_n 0, 1) := by decide +kernel
theorem d_Th_settle_64 : decode prog_5_method_5_code 64 = .ok (.iload_n 1, 1) := by decide +kernel
theorem d_Th_settle_65 : decode prog_5_method_5_code 65 = .ok (.invokevirtual 91, 3) := by decide +kernel
theorem d_Th_settle_68 : decode prog_5_method_5_code 68 = .ok (.aload_n 0, 1) := by decide +kernel
theorem d_Th_settle_69 : decode prog_5_method_5_code 69 = .ok (.getfield 31, 3) := by decide +kernel
theorem d_Th_settle_72 : decode prog_5_method_5_code 72 = .ok (.iload_n 1, 1) := by decide +kernel
theorem d_Th_settle_73 : decode prog_5_method_5_code 73 = .ok (.aload_n 0, 1) := by decide +kernel
theorem d_Th_settle_74 : decode prog_5_method_5_code 74 = .ok (.getfield 84, 3) := by decide +kernel
theorem d_Th_settle_77 : decode prog_5_method_5_code 77 = .ok (.ifCond .eq 11, 3) := by decide +kernel
theorem d_Th_settle_80 : decode prog_5_method_5_code 80 = .ok (.aload_n 0, 1) := by decide +kernel
theorem d_Th_settle_81 : decode prog_5_method_5_code 81 = .ok (.iload_n 1, 1) := by decide +kernel
theorem d_Th_settle_82 : decode prog_5_method_5_code 82 = .ok (.invokevirtual 95, 3) := by decide +kernel
theorem d_Th_settle_85 : decode prog_5_method_5_code 85 = .ok (.goto 5, 3) := by decide +kernel
theorem d_Th_settle_88 : decode prog_5_method_5_code 88 = .ok (.bipush (-2), 2) := by decide +kernel
theorem d_Th_settle_90 : decode prog_5_method_5_code 90 = .ok (.iastore, 1) := by decide +kernel
theorem d_Th_settle_91 : decode prog_5_method_5_code 91 = .ok (.iinc 1 1, 3) := by decide +kernel
theorem d_Th_settle_94 : decode prog_5_method_5_code 94 = .ok (.goto (-51), 3) := by decide +kernel
theorem d_Th_settle_97 : decode prog_5_method_5_code 97 = .ok (.aload_n 0, 1) := by decide +kernel
theorem d_Th_settle_98 : decode prog_5_method_5_code 98 = .ok (.iconst 0, 1) := by decide +kernel
theorem d_Th_settle_99 : decode prog_5_method_5_code 99 = .ok (.putfield 59, 3) := by decide +kernel
theorem d_Th_settle_102 : decode prog_5_method_5_code 102 = .ok (.aload_n 0, 1) := by decide +kernel
theorem d_Th_settle_103 : decode prog_5_method_5_code 103 = .ok (.aload_n 0, 1) := by decide +kernel
theorem d_Th_settle_104 : decode prog_5_method_5_code 104 = .ok (.getfield 38, 3) := by decide +kernel
theorem d_Th_settle_107 : decode prog_5_method_5_code 107 = .ok (.invokevirtual 69, 3) := by decide +kernel
theorem d_Th_settle_110 : decode prog_5_method_5_code 110 = .ok (.putfield 66, 3) := by decide +kernel
theorem d_Th_settle_113 : decode prog_5_method_5_code 113 = .ok (.return_, 1) := by decide +kernel
theorem d_Th_goTogether_0 : decode prog_5_method_6_code 0 = .ok (.aload_n 0, 1) := by decide +kernel
theorem d_Th_goTogether_1 : decode prog_5_method_6_code 1 = .ok (.getfield 84, 3) := by decide +kernel
theorem d_Th_goTogether_4 : decode prog_5_method_6_code 4 = .ok (.ireturn, 1) := by decide +kernel
theorem d_Th_typeOf_0 : decode prog_5_method_7_code 0 = .ok (.iload_n 1, 1) := by decide +kernel
theorem d_Th_typeOf_1 : decode prog_5_method_7_code 1 = .ok (.iconst 5, 1) := by decide +kernel
theorem d_Th_typeOf_2 : decode prog_5_method_7_code 2 = .ok (.invokestatic 49, 3) := by decide +kernel
theorem d_Th_typeOf_5 : decode prog_5_method_7_code 5 = .ok (.ifCond .eq 12, 3) := by decide +kernel
theorem d_Th_typeOf_8 : decode prog_5_method_7_code 8 = .ok (.aload_n 0, 1) := by decide +kernel
theorem d_Th_typeOf_9 : decode prog_5_method_7_code 9 = .ok (.getfield 31, 3) := by decide +kernel
theorem d_Th_typeOf_12 : decode prog_5_method_7_code 12 = .ok (.iload_n 1, 1) := by decide +kernel
theorem d_Th_typeOf_13 : decode prog_5_method_7_code 13 = .ok (.iaload, 1) := by decide +kernel
theorem d_Th_typeOf_14 : decode prog_5_method_7_code 14 = .ok (.goto 4, 3) := by decide +kernel
theorem d_Th_typeOf_17 : decode prog_5_method_7_code 17 = .ok (.iconst (-1), 1) := by decide +kernel
theorem d_Th_typeOf_18 : decode prog_5_method_7_code 18 = .ok (.ireturn, 1) := by decide +kernel
theorem d_Th_canLack_0 : decode prog_5_method_8_code 0 = .ok (.aload_n 0, 1) := by decide +kernel
theorem d_Th_canLack_1 : decode prog_5_method_8_code 1 = .ok (.getfield 84, 3) := by decide +kernel
theorem d_Th_canLack_4 : decode prog_5_method_8_code 4 = .ok (.ifCond .eq 11, 3) := by decide +kernel
theorem d_Th_canLack_7 : decode prog_5_method_8_code 7 = .ok (.iload_n 1, 1) := by decide +kernel
theorem d_Th_canLack_8 : decode prog_5_method_8_code 8 = .ok (.iconst 5, 1) := by decide +kernel
theorem d_Th_canLack_9 : decode prog_5_method_8_code 9 = .ok (.invokestatic 49, 3) := by decide +kernel
theorem d_Th_canLack_12 : decode prog_5_method_8_code 12 = .ok (.ifCond .ne 5, 3) := by decide +kernel
theorem d_Th_canLack_15 : decode prog_5_method_8_code 15 = .ok (.iconst 0, 1) := by decide +kernel
theorem d_Th_canLack_16 : decode prog_5_method_8_code 16 = .ok (.ireturn, 1) := by decide +kernel
theorem d_Th_canLack_17 : decode prog_5_method_8_code 17 = .ok (.aload_n 0, 1) := by decide +kernel
theorem d_Th_canLack_18 : decode prog_5_method_8_code 18 = .ok (.getfield 34, 3) := by decide +kernel
theorem d_Th_canLack_21 : decode prog_5_method_8_code 21 = .ok (.iload_n 2, 1) := by decide +kernel
theorem d_Th_canLack_22 : decode prog_5_method_8_code 22 = .ok (.aload_n 0, 1) := by decide +kernel
theorem d_Th_canLack_23 : decode prog_5_method_8_code 23 = .ok (.getfield 31, 3) := by decide +kernel
theorem d_Th_canLack_26 : decode prog_5_method_8_code 26 = .ok (.iload_n 1, 1) := by decide +kernel
theorem d_Th_canLack_27 : decode prog_5_method_8_code 27 = .ok (.iaload, 1) := by decide +kernel
theorem d_Th_canLack_28 : decode prog_5_method_8_code 28 = .ok (.invokevirtual 99, 3) := by decide +kernel
theorem d_Th_canLack_31 : decode prog_5_method_8_code 31 = .ok (.ifCond .ne 5, 3) := by decide +kernel
theorem d_Th_canLack_34 : decode prog_5_method_8_code 34 = .ok (.iconst 1, 1) := by decide +kernel
theorem d_Th_canLack_35 : decode prog_5_method_8_code 35 = .ok (.ireturn, 1) := by decide +kernel
theorem d_Th_canLack_36 : decode prog_5_method_8_code 36 = .ok (.aload_n 0, 1) := by decide +kernel
theorem d_Th_canLack_37 : decode prog_5_method_8_code 37 = .ok (.invokevirtual 78, 3) := by decide +kernel
theorem d_Th_canLack_40 : decode prog_5_method_8_code 40 = .ok (.iconst 0, 1) := by decide +kernel
theorem d_Th_canLack_41 : decode prog_5_method_8_code 41 = .ok (.istore_n 3, 1) := by decide +kernel
theorem d_Th_canLack_42 : decode prog_5_method_8_code 42 = .ok (.iload_n 3, 1) := by decide +kernel
theorem d_Th_canLack_43 : decode prog_5_method_8_code 43 = .ok (.aload_n 0, 1) := by decide +kernel
theorem d_Th_canLack_44 : decode prog_5_method_8_code 44 = .ok (.getfield 102, 3) := by decide +kernel
theorem d_Th_canLack_47 : decode prog_5_method_8_code 47 = .ok (.if_icmp .ge 36, 3) := by decide +kernel
theorem d_Th_canLack_50 : decode prog_5_method_8_code 50 = .ok (.aload_n 0, 1) := by decide +kernel
theorem d_Th_canLack_51 : decode prog_5_method_8_code 51 = .ok (.getfield 22, 3) := by decide +kernel
theorem d_Th_canLack_54 : decode prog_5_method_8_code 54 = .ok (.iload_n 1, 1) := by decide +kernel
theorem d_Th_canLack_55 : decode prog_5_method_8_code 55 = .ok (.bipush 16, 2) := by decide +kernel
theorem d_Th_canLack_57 : decode prog_5_method_8_code 57 = .ok (.imul, 1) := by decide +kernel
theorem d_Th_canLack_58 : decode prog_5_method_8_code 58 = .ok (.iload_n 3, 1) := by decide +kernel
theorem d_Th_canLack_59 : decode prog_5_method_8_code 59 = .ok (.iadd, 1) := by decide +kernel
theorem d_Th_canLack_60 : decode prog_5_method_8_code 60 = .ok (.dup2, 1) := by decide +kernel
theorem d_Th_canLack_61 : decode prog_5_method_8_code 61 = .ok (.laload, 1) := by decide +kernel
theorem d_Th_canLack_62 : decode prog_5_method_8_code 62 = .ok (.aload_n 0, 1) := by decide +kernel
theorem d_Th_canLack_63 : decode prog_5_method_8_code 63 = .ok (.getfield 34, 3) := by decide +kernel
theorem d_Th_canLack_66 : decode prog_5_method_8_code 66 = .ok (.iload_n 2, 1) := by decide +kernel
theorem d_Th_canLack_67 : decode prog_5_method_8_code 67 = .ok (.iload_n 3, 1) := by decide +kernel
theorem d_Th_canLack_68 : decode prog_5_method_8_code 68 = .ok (.invokevirtual 53, 3) := by decide +kernel
theorem d_Th_canLack_71 : decode prog_5_method_8_code 71 = .ok (.ldc2_w 105, 3) := by decide +kernel
theorem d_Th_canLack_74 : decode prog_5_method_8_code 74 = .ok (.lxor, 1) := by decide +kernel
theorem d_Th_canLack_75 : decode prog_5_method_8_code 75 = .ok (.land, 1) := by decide +kernel
theorem d_Th_canLack_76 : decode prog_5_method_8_code 76 = .ok (.lastore, 1) := by decide +kernel
theorem d_Th_canLack_77 : decode prog_5_method_8_code 77 = .ok (.iinc 3 1, 3) := by decide +kernel
theorem d_Th_canLack_80 : decode prog_5_method_8_code 80 = .ok (.goto (-38), 3) := by decide +kernel
theorem d_Th_canLack_83 : decode prog_5_method_8_code 83 = .ok (.aload_n 0, 1) := by decide +kernel
theorem d_Th_canLack_84 : decode prog_5_method_8_code 84 = .ok (.iconst 0, 1) := by decide +kernel
theorem d_Th_canLack_85 : decode prog_5_method_8_code 85 = .ok (.bipush 31, 2) := by decide +kernel
theorem d_Th_canLack_87 : decode prog_5_method_8_code 87 = .ok (.invokevirtual 81, 3) := by decide +kernel
theorem d_Th_canLack_90 : decode prog_5_method_8_code 90 = .ok (.ireturn, 1) := by decide +kernel
theorem d_Tn_class0_0 : decode prog_1_method_2_code 0 = .ok (.iload_n 1, 1) := by decide +kernel
theorem d_Tn_class0_1 : decode prog_1_method_2_code 1 = .ok (.bipush 10, 2) := by decide +kernel
theorem d_Tn_class0_3 : decode prog_1_method_2_code 3 = .ok (.invokestatic 41, 3) := by decide +kernel
theorem d_Tn_class0_6 : decode prog_1_method_2_code 6 = .ok (.ifCond .eq 16, 3) := by decide +kernel
theorem d_Tn_class0_9 : decode prog_1_method_2_code 9 = .ok (.aload_n 0, 1) := by decide +kernel
theorem d_Tn_class0_10 : decode prog_1_method_2_code 10 = .ok (.getfield 12, 3) := by decide +kernel
theorem d_Tn_class0_13 : decode prog_1_method_2_code 13 = .ok (.iconst 2, 1) := by decide +kernel
theorem d_Tn_class0_14 : decode prog_1_method_2_code 14 = .ok (.iload_n 1, 1) := by decide +kernel
theorem d_Tn_class0_15 : decode prog_1_method_2_code 15 = .ok (.iconst 0, 1) := by decide +kernel
theorem d_Tn_class0_16 : decode prog_1_method_2_code 16 = .ok (.invokevirtual 45, 3) := by decide +kernel
theorem d_Tn_class0_19 : decode prog_1_method_2_code 19 = .ok (.goto 4, 3) := by decide +kernel
theorem d_Tn_class0_22 : decode prog_1_method_2_code 22 = .ok (.iconst (-1), 1) := by decide +kernel
theorem d_Tn_class0_23 : decode prog_1_method_2_code 23 = .ok (.ireturn, 1) := by decide +kernel
theorem d_Tn_concept_0 : decode prog_1_method_3_code 0 = .ok (.iload_n 1, 1) := by decide +kernel
theorem d_Tn_concept_1 : decode prog_1_method_3_code 1 = .ok (.tableswitch 166 3 7 #[35, 61, 61, 98, 133], 35) := by decide +kernel
theorem d_Tn_concept_36 : decode prog_1_method_3_code 36 = .ok (.aload_n 0, 1) := by decide +kernel
theorem d_Tn_concept_37 : decode prog_1_method_3_code 37 = .ok (.getfield 12, 3) := by decide +kernel
theorem d_Tn_concept_40 : decode prog_1_method_3_code 40 = .ok (.iload_n 2, 1) := by decide +kernel
theorem d_Tn_concept_41 : decode prog_1_method_3_code 41 = .ok (.invokevirtual 49, 3) := by decide +kernel
theorem d_Tn_concept_44 : decode prog_1_method_3_code 44 = .ok (.ifCond .eq 16, 3) := by decide +kernel
theorem d_Tn_concept_47 : decode prog_1_method_3_code 47 = .ok (.aload_n 0, 1) := by decide +kernel
theorem d_Tn_concept_48 : decode prog_1_method_3_code 48 = .ok (.getfield 12, 3) := by decide +kernel
theorem d_Tn_concept_51 : decode prog_1_method_3_code 51 = .ok (.iconst 3, 1) := by decide +kernel
theorem d_Tn_concept_52 : decode prog_1_method_3_code 52 = .ok (.iload_n 2, 1) := by decide +kernel
theorem d_Tn_concept_53 : decode prog_1_method_3_code 53 = .ok (.iconst 0, 1) := by decide +kernel
theorem d_Tn_concept_54 : decode prog_1_method_3_code 54 = .ok (.invokevirtual 45, 3) := by decide +kernel
theorem d_Tn_concept_57 : decode prog_1_method_3_code 57 = .ok (.goto 4, 3) := by decide +kernel
theorem d_Tn_concept_60 : decode prog_1_method_3_code 60 = .ok (.iconst (-1), 1) := by decide +kernel
theorem d_Tn_concept_61 : decode prog_1_method_3_code 61 = .ok (.ireturn, 1) := by decide +kernel
theorem d_Tn_concept_62 : decode prog_1_method_3_code 62 = .ok (.aload_n 0, 1) := by decide +kernel
theorem d_Tn_concept_63 : decode prog_1_method_3_code 63 = .ok (.getfield 12, 3) := by decide +kernel
theorem d_Tn_concept_66 : decode prog_1_method_3_code 66 = .ok (.iload_n 2, 1) := by decide +kernel
theorem d_Tn_concept_67 : decode prog_1_method_3_code 67 = .ok (.invokevirtual 49, 3) := by decide +kernel
theorem d_Tn_concept_70 : decode prog_1_method_3_code 70 = .ok (.ifCond .eq 27, 3) := by decide +kernel
theorem d_Tn_concept_73 : decode prog_1_method_3_code 73 = .ok (.aload_n 0, 1) := by decide +kernel
theorem d_Tn_concept_74 : decode prog_1_method_3_code 74 = .ok (.getfield 12, 3) := by decide +kernel
theorem d_Tn_concept_77 : decode prog_1_method_3_code 77 = .ok (.iload_n 3, 1) := by decide +kernel
theorem d_Tn_concept_78 : decode prog_1_method_3_code 78 = .ok (.invokevirtual 49, 3) := by decide +kernel
theorem d_Tn_concept_81 : decode prog_1_method_3_code 81 = .ok (.ifCond .eq 16, 3) := by decide +kernel
theorem d_Tn_concept_84 : decode prog_1_method_3_code 84 = .ok (.aload_n 0, 1) := by decide +kernel
theorem d_Tn_concept_85 : decode prog_1_method_3_code 85 = .ok (.getfield 12, 3) := by decide +kernel
theorem d_Tn_concept_88 : decode prog_1_method_3_code 88 = .ok (.iload_n 1, 1) := by decide +kernel
theorem d_Tn_concept_89 : decode prog_1_method_3_code 89 = .ok (.iload_n 2, 1) := by decide +kernel
theorem d_Tn_concept_90 : decode prog_1_method_3_code 90 = .ok (.iload_n 3, 1) := by decide +kernel
theorem d_Tn_concept_91 : decode prog_1_method_3_code 91 = .ok (.invokevirtual 45, 3) := by decide +kernel
theorem d_Tn_concept_94 : decode prog_1_method_3_code 94 = .ok (.goto 4, 3) := by decide +kernel
theorem d_Tn_concept_97 : decode prog_1_method_3_code 97 = .ok (.iconst (-1), 1) := by decide +kernel
theorem d_Tn_concept_98 : decode prog_1_method_3_code 98 = .ok (.ireturn, 1) := by decide +kernel
theorem d_Tn_concept_99 : decode prog_1_method_3_code 99 = .ok (.iload_n 2, 1) := by decide +kernel
theorem d_Tn_concept_100 : decode prog_1_method_3_code 100 = .ok (.iconst 4, 1) := by decide +kernel
theorem d_Tn_concept_101 : decode prog_1_method_3_code 101 = .ok (.invokestatic 41, 3) := by decide +kernel
theorem d_Tn_concept_104 : decode prog_1_method_3_code 104 = .ok (.ifCond .eq 28, 3) := by decide +kernel
theorem d_Tn_concept_107 : decode prog_1_method_3_code 107 = .ok (.aload_n 0, 1) := by decide +kernel
theorem d_Tn_concept_108 : decode prog_1_method_3_code 108 = .ok (.getfield 12, 3) := by decide +kernel
theorem d_Tn_concept_111 : decode prog_1_method_3_code 111 = .ok (.iload_n 3, 1) := by decide +kernel
theorem d_Tn_concept_112 : decode prog_1_method_3_code 112 = .ok (.invokevirtual 49, 3) := by decide +kernel
theorem d_Tn_concept_115 : decode prog_1_method_3_code 115 = .ok (.ifCond .eq 17, 3) := by decide +kernel
theorem d_Tn_concept_118 : decode prog_1_method_3_code 118 = .ok (.aload_n 0, 1) := by decide +kernel
theorem d_Tn_concept_119 : decode prog_1_method_3_code 119 = .ok (.getfield 12, 3) := by decide +kernel
theorem d_Tn_concept_122 : decode prog_1_method_3_code 122 = .ok (.bipush 6, 2) := by decide +kernel
theorem d_Tn_concept_124 : decode prog_1_method_3_code 124 = .ok (.iload_n 2, 1) := by decide +kernel
theorem d_Tn_concept_125 : decode prog_1_method_3_code 125 = .ok (.iload_n 3, 1) := by decide +kernel
theorem d_Tn_concept_126 : decode prog_1_method_3_code 126 = .ok (.invokevirtual 45, 3) := by decide +kernel
theorem d_Tn_concept_129 : decode prog_1_method_3_code 129 = .ok (.goto 4, 3) := by decide +kernel
theorem d_Tn_concept_132 : decode prog_1_method_3_code 132 = .ok (.iconst (-1), 1) := by decide +kernel
theorem d_Tn_concept_133 : decode prog_1_method_3_code 133 = .ok (.ireturn, 1) := by decide +kernel
theorem d_Tn_concept_134 : decode prog_1_method_3_code 134 = .ok (.iload_n 2, 1) := by decide +kernel
theorem d_Tn_concept_135 : decode prog_1_method_3_code 135 = .ok (.iconst 4, 1) := by decide +kernel
theorem d_Tn_concept_136 : decode prog_1_method_3_code 136 = .ok (.invokestatic 41, 3) := by decide +kernel
theorem d_Tn_concept_139 : decode prog_1_method_3_code 139 = .ok (.ifCond .eq 26, 3) := by decide +kernel
theorem d_Tn_concept_142 : decode prog_1_method_3_code 142 = .ok (.aload_n 0, 1) := by decide +kernel
theorem d_Tn_concept_143 : decode prog_1_method_3_code 143 = .ok (.getfield 12, 3) := by decide +kernel
theorem d_Tn_concept_146 : decode prog_1_method_3_code 146 = .ok (.iload_n 3, 1) := by decide +kernel
theorem d_Tn_concept_147 : decode prog_1_method_3_code 147 = .ok (.invokevirtual 49, 3) := by decide +kernel
theorem d_Tn_concept_150 : decode prog_1_method_3_code 150 = .ok (.ifCond .eq 15, 3) := by decide +kernel
theorem d_Tn_concept_153 : decode prog_1_method_3_code 153 = .ok (.aload_n 0, 1) := by decide +kernel
theorem d_Tn_concept_154 : decode prog_1_method_3_code 154 = .ok (.getfield 12, 3) := by decide +kernel
theorem d_Tn_concept_157 : decode prog_1_method_3_code 157 = .ok (.iload_n 2, 1) := by decide +kernel
theorem d_Tn_concept_158 : decode prog_1_method_3_code 158 = .ok (.iload_n 3, 1) := by decide +kernel
theorem d_Tn_concept_159 : decode prog_1_method_3_code 159 = .ok (.invokevirtual 53, 3) := by decide +kernel
theorem d_Tn_concept_162 : decode prog_1_method_3_code 162 = .ok (.goto 4, 3) := by decide +kernel
theorem d_Tn_concept_165 : decode prog_1_method_3_code 165 = .ok (.iconst (-1), 1) := by decide +kernel
theorem d_Tn_concept_166 : decode prog_1_method_3_code 166 = .ok (.ireturn, 1) := by decide +kernel
theorem d_Tn_concept_167 : decode prog_1_method_3_code 167 = .ok (.iconst (-1), 1) := by decide +kernel
theorem d_Tn_concept_168 : decode prog_1_method_3_code 168 = .ok (.ireturn, 1) := by decide +kernel
theorem d_Tn_told_0 : decode prog_1_method_4_code 0 = .ok (.aload_n 0, 1) := by decide +kernel
theorem d_Tn_told_1 : decode prog_1_method_4_code 1 = .ok (.getfield 12, 3) := by decide +kernel
theorem d_Tn_told_4 : decode prog_1_method_4_code 4 = .ok (.iload_n 1, 1) := by decide +kernel
theorem d_Tn_told_5 : decode prog_1_method_4_code 5 = .ok (.invokevirtual 49, 3) := by decide +kernel
theorem d_Tn_told_8 : decode prog_1_method_4_code 8 = .ok (.ifCond .eq 15, 3) := by decide +kernel
theorem d_Tn_told_11 : decode prog_1_method_4_code 11 = .ok (.aload_n 0, 1) := by decide +kernel
theorem d_Tn_told_12 : decode prog_1_method_4_code 12 = .ok (.getfield 12, 3) := by decide +kernel
theorem d_Tn_told_15 : decode prog_1_method_4_code 15 = .ok (.iload_n 1, 1) := by decide +kernel
theorem d_Tn_told_16 : decode prog_1_method_4_code 16 = .ok (.iload_n 2, 1) := by decide +kernel
theorem d_Tn_told_17 : decode prog_1_method_4_code 17 = .ok (.invokevirtual 57, 3) := by decide +kernel
theorem d_Tn_told_20 : decode prog_1_method_4_code 20 = .ok (.goto 4, 3) := by decide +kernel
theorem d_Tn_told_23 : decode prog_1_method_4_code 23 = .ok (.iconst (-1), 1) := by decide +kernel
theorem d_Tn_told_24 : decode prog_1_method_4_code 24 = .ok (.ireturn, 1) := by decide +kernel
theorem d_Tn_concepts_0 : decode prog_1_method_5_code 0 = .ok (.aload_n 0, 1) := by decide +kernel
theorem d_Tn_concepts_1 : decode prog_1_method_5_code 1 = .ok (.getfield 12, 3) := by decide +kernel
theorem d_Tn_concepts_4 : decode prog_1_method_5_code 4 = .ok (.invokevirtual 60, 3) := by decide +kernel
theorem d_Tn_concepts_7 : decode prog_1_method_5_code 7 = .ok (.ireturn, 1) := by decide +kernel
theorem d_Tn_atoms_0 : decode prog_1_method_6_code 0 = .ok (.aload_n 0, 1) := by decide +kernel
theorem d_Tn_atoms_1 : decode prog_1_method_6_code 1 = .ok (.getfield 12, 3) := by decide +kernel
theorem d_Tn_atoms_4 : decode prog_1_method_6_code 4 = .ok (.invokevirtual 64, 3) := by decide +kernel
theorem d_Tn_atoms_7 : decode prog_1_method_6_code 7 = .ok (.ireturn, 1) := by decide +kernel
theorem d_Tn_axiom_0 : decode prog_1_method_7_code 0 = .ok (.aload_n 0, 1) := by decide +kernel
theorem d_Tn_axiom_1 : decode prog_1_method_7_code 1 = .ok (.getfield 12, 3) := by decide +kernel
theorem d_Tn_axiom_4 : decode prog_1_method_7_code 4 = .ok (.iload_n 1, 1) := by decide +kernel
theorem d_Tn_axiom_5 : decode prog_1_method_7_code 5 = .ok (.invokevirtual 49, 3) := by decide +kernel
theorem d_Tn_axiom_8 : decode prog_1_method_7_code 8 = .ok (.ifCond .eq 26, 3) := by decide +kernel
theorem d_Tn_axiom_11 : decode prog_1_method_7_code 11 = .ok (.aload_n 0, 1) := by decide +kernel
theorem d_Tn_axiom_12 : decode prog_1_method_7_code 12 = .ok (.getfield 12, 3) := by decide +kernel
theorem d_Tn_axiom_15 : decode prog_1_method_7_code 15 = .ok (.iload_n 2, 1) := by decide +kernel
theorem d_Tn_axiom_16 : decode prog_1_method_7_code 16 = .ok (.invokevirtual 49, 3) := by decide +kernel
theorem d_Tn_axiom_19 : decode prog_1_method_7_code 19 = .ok (.ifCond .eq 15, 3) := by decide +kernel
theorem d_Tn_axiom_22 : decode prog_1_method_7_code 22 = .ok (.aload_n 0, 1) := by decide +kernel
theorem d_Tn_axiom_23 : decode prog_1_method_7_code 23 = .ok (.getfield 28, 3) := by decide +kernel
theorem d_Tn_axiom_26 : decode prog_1_method_7_code 26 = .ok (.iload_n 1, 1) := by decide +kernel
theorem d_Tn_axiom_27 : decode prog_1_method_7_code 27 = .ok (.iload_n 2, 1) := by decide +kernel
theorem d_Tn_axiom_28 : decode prog_1_method_7_code 28 = .ok (.invokevirtual 67, 3) := by decide +kernel
theorem d_Tn_axiom_31 : decode prog_1_method_7_code 31 = .ok (.goto 4, 3) := by decide +kernel
theorem d_Tn_axiom_34 : decode prog_1_method_7_code 34 = .ok (.iconst (-1), 1) := by decide +kernel
theorem d_Tn_axiom_35 : decode prog_1_method_7_code 35 = .ok (.ireturn, 1) := by decide +kernel
theorem d_Tn_drop_0 : decode prog_1_method_8_code 0 = .ok (.aload_n 0, 1) := by decide +kernel
theorem d_Tn_drop_1 : decode prog_1_method_8_code 1 = .ok (.getfield 28, 3) := by decide +kernel
theorem d_Tn_drop_4 : decode prog_1_method_8_code 4 = .ok (.invokevirtual 70, 3) := by decide +kernel
theorem d_Tn_drop_7 : decode prog_1_method_8_code 7 = .ok (.ireturn, 1) := by decide +kernel
theorem d_Tn_role_0 : decode prog_1_method_9_code 0 = .ok (.iload_n 1, 1) := by decide +kernel
theorem d_Tn_role_1 : decode prog_1_method_9_code 1 = .ok (.iconst 4, 1) := by decide +kernel
theorem d_Tn_role_2 : decode prog_1_method_9_code 2 = .ok (.invokestatic 41, 3) := by decide +kernel
theorem d_Tn_role_5 : decode prog_1_method_9_code 5 = .ok (.ifCond .eq 11, 3) := by decide +kernel
theorem d_Tn_role_8 : decode prog_1_method_9_code 8 = .ok (.iload_n 2, 1) := by decide +kernel
theorem d_Tn_role_9 : decode prog_1_method_9_code 9 = .ok (.iconst 4, 1) := by decide +kernel
theorem d_Tn_role_10 : decode prog_1_method_9_code 10 = .ok (.invokestatic 41, 3) := by decide +kernel
theorem d_Tn_role_13 : decode prog_1_method_9_code 13 = .ok (.ifCond .ne 5, 3) := by decide +kernel
theorem d_Tn_role_16 : decode prog_1_method_9_code 16 = .ok (.iconst (-1), 1) := by decide +kernel
theorem d_Tn_role_17 : decode prog_1_method_9_code 17 = .ok (.ireturn, 1) := by decide +kernel
theorem d_Tn_role_18 : decode prog_1_method_9_code 18 = .ok (.aload_n 0, 1) := by decide +kernel
theorem d_Tn_role_19 : decode prog_1_method_9_code 19 = .ok (.getfield 19, 3) := by decide +kernel
theorem d_Tn_role_22 : decode prog_1_method_9_code 22 = .ok (.iload_n 1, 1) := by decide +kernel
theorem d_Tn_role_23 : decode prog_1_method_9_code 23 = .ok (.iload_n 2, 1) := by decide +kernel
theorem d_Tn_role_24 : decode prog_1_method_9_code 24 = .ok (.invokevirtual 73, 3) := by decide +kernel
theorem d_Tn_role_27 : decode prog_1_method_9_code 27 = .ok (.ifCond .ne 5, 3) := by decide +kernel
theorem d_Tn_role_30 : decode prog_1_method_9_code 30 = .ok (.iconst 0, 1) := by decide +kernel
theorem d_Tn_role_31 : decode prog_1_method_9_code 31 = .ok (.ireturn, 1) := by decide +kernel
theorem d_Tn_role_32 : decode prog_1_method_9_code 32 = .ok (.aload_n 0, 1) := by decide +kernel
theorem d_Tn_role_33 : decode prog_1_method_9_code 33 = .ok (.getfield 28, 3) := by decide +kernel
theorem d_Tn_role_36 : decode prog_1_method_9_code 36 = .ok (.invokevirtual 76, 3) := by decide +kernel
theorem d_Tn_role_39 : decode prog_1_method_9_code 39 = .ok (.iconst 1, 1) := by decide +kernel
theorem d_Tn_role_40 : decode prog_1_method_9_code 40 = .ok (.ireturn, 1) := by decide +kernel
theorem d_Tn_can_0 : decode prog_1_method_10_code 0 = .ok (.aload_n 0, 1) := by decide +kernel
theorem d_Tn_can_1 : decode prog_1_method_10_code 1 = .ok (.getfield 12, 3) := by decide +kernel
theorem d_Tn_can_4 : decode prog_1_method_10_code 4 = .ok (.iload_n 1, 1) := by decide +kernel
theorem d_Tn_can_5 : decode prog_1_method_10_code 5 = .ok (.invokevirtual 49, 3) := by decide +kernel
theorem d_Tn_can_8 : decode prog_1_method_10_code 8 = .ok (.ifCond .ne 5, 3) := by decide +kernel
theorem d_Tn_can_11 : decode prog_1_method_10_code 11 = .ok (.iconst (-1), 1) := by decide +kernel
theorem d_Tn_can_12 : decode prog_1_method_10_code 12 = .ok (.ireturn, 1) := by decide +kernel
theorem d_Tn_can_13 : decode prog_1_method_10_code 13 = .ok (.aload_n 0, 1) := by decide +kernel
theorem d_Tn_can_14 : decode prog_1_method_10_code 14 = .ok (.getfield 28, 3) := by decide +kernel
theorem d_Tn_can_17 : decode prog_1_method_10_code 17 = .ok (.invokevirtual 79, 3) := by decide +kernel
theorem d_Tn_can_20 : decode prog_1_method_10_code 20 = .ok (.aload_n 0, 1) := by decide +kernel
theorem d_Tn_can_21 : decode prog_1_method_10_code 21 = .ok (.getfield 28, 3) := by decide +kernel
theorem d_Tn_can_24 : decode prog_1_method_10_code 24 = .ok (.iload_n 1, 1) := by decide +kernel
theorem d_Tn_can_25 : decode prog_1_method_10_code 25 = .ok (.invokevirtual 82, 3) := by decide +kernel
theorem d_Tn_can_28 : decode prog_1_method_10_code 28 = .ok (.ifCond .eq 7, 3) := by decide +kernel
theorem d_Tn_can_31 : decode prog_1_method_10_code 31 = .ok (.iconst 1, 1) := by decide +kernel
theorem d_Tn_can_32 : decode prog_1_method_10_code 32 = .ok (.goto 4, 3) := by decide +kernel
theorem d_Tn_can_35 : decode prog_1_method_10_code 35 = .ok (.iconst 0, 1) := by decide +kernel
theorem d_Tn_can_36 : decode prog_1_method_10_code 36 = .ok (.ireturn, 1) := by decide +kernel
theorem d_Tn_below_0 : decode prog_1_method_11_code 0 = .ok (.aload_n 0, 1) := by decide +kernel
theorem d_Tn_below_1 : decode prog_1_method_11_code 1 = .ok (.getfield 12, 3) := by decide +kernel
theorem d_Tn_below_4 : decode prog_1_method_11_code 4 = .ok (.iload_n 1, 1) := by decide +kernel
theorem d_Tn_below_5 : decode prog_1_method_11_code 5 = .ok (.invokevirtual 49, 3) := by decide +kernel
theorem d_Tn_below_8 : decode prog_1_method_11_code 8 = .ok (.ifCond .eq 14, 3) := by decide +kernel
theorem d_Tn_below_11 : decode prog_1_method_11_code 11 = .ok (.aload_n 0, 1) := by decide +kernel
theorem d_Tn_below_12 : decode prog_1_method_11_code 12 = .ok (.getfield 12, 3) := by decide +kernel
theorem d_Tn_below_15 : decode prog_1_method_11_code 15 = .ok (.iload_n 2, 1) := by decide +kernel
theorem d_Tn_below_16 : decode prog_1_method_11_code 16 = .ok (.invokevirtual 49, 3) := by decide +kernel
theorem d_Tn_below_19 : decode prog_1_method_11_code 19 = .ok (.ifCond .ne 5, 3) := by decide +kernel
theorem d_Tn_below_22 : decode prog_1_method_11_code 22 = .ok (.iconst (-1), 1) := by decide +kernel
theorem d_Tn_below_23 : decode prog_1_method_11_code 23 = .ok (.ireturn, 1) := by decide +kernel
theorem d_Tn_below_24 : decode prog_1_method_11_code 24 = .ok (.aload_n 0, 1) := by decide +kernel
theorem d_Tn_below_25 : decode prog_1_method_11_code 25 = .ok (.getfield 28, 3) := by decide +kernel
theorem d_Tn_below_28 : decode prog_1_method_11_code 28 = .ok (.invokevirtual 79, 3) := by decide +kernel
theorem d_Tn_below_31 : decode prog_1_method_11_code 31 = .ok (.aload_n 0, 1) := by decide +kernel
theorem d_Tn_below_32 : decode prog_1_method_11_code 32 = .ok (.getfield 28, 3) := by decide +kernel
theorem d_Tn_below_35 : decode prog_1_method_11_code 35 = .ok (.iload_n 1, 1) := by decide +kernel
theorem d_Tn_below_36 : decode prog_1_method_11_code 36 = .ok (.iload_n 2, 1) := by decide +kernel
theorem d_Tn_below_37 : decode prog_1_method_11_code 37 = .ok (.invokevirtual 85, 3) := by decide +kernel
theorem d_Tn_below_40 : decode prog_1_method_11_code 40 = .ok (.ifCond .eq 7, 3) := by decide +kernel
theorem d_Tn_below_43 : decode prog_1_method_11_code 43 = .ok (.iconst 1, 1) := by decide +kernel
theorem d_Tn_below_44 : decode prog_1_method_11_code 44 = .ok (.goto 4, 3) := by decide +kernel
theorem d_Tn_below_47 : decode prog_1_method_11_code 47 = .ok (.iconst 0, 1) := by decide +kernel
theorem d_Tn_below_48 : decode prog_1_method_11_code 48 = .ok (.ireturn, 1) := by decide +kernel
theorem d_Tn_types_0 : decode prog_1_method_12_code 0 = .ok (.aload_n 0, 1) := by decide +kernel
theorem d_Tn_types_1 : decode prog_1_method_12_code 1 = .ok (.getfield 28, 3) := by decide +kernel
theorem d_Tn_types_4 : decode prog_1_method_12_code 4 = .ok (.invokevirtual 79, 3) := by decide +kernel
theorem d_Tn_types_7 : decode prog_1_method_12_code 7 = .ok (.aload_n 0, 1) := by decide +kernel
theorem d_Tn_types_8 : decode prog_1_method_12_code 8 = .ok (.getfield 28, 3) := by decide +kernel
theorem d_Tn_types_11 : decode prog_1_method_12_code 11 = .ok (.invokevirtual 88, 3) := by decide +kernel
theorem d_Tn_types_14 : decode prog_1_method_12_code 14 = .ok (.ireturn, 1) := by decide +kernel
theorem d_Tn_rounds_0 : decode prog_1_method_13_code 0 = .ok (.aload_n 0, 1) := by decide +kernel
theorem d_Tn_rounds_1 : decode prog_1_method_13_code 1 = .ok (.getfield 28, 3) := by decide +kernel
theorem d_Tn_rounds_4 : decode prog_1_method_13_code 4 = .ok (.invokevirtual 79, 3) := by decide +kernel
theorem d_Tn_rounds_7 : decode prog_1_method_13_code 7 = .ok (.aload_n 0, 1) := by decide +kernel
theorem d_Tn_rounds_8 : decode prog_1_method_13_code 8 = .ok (.getfield 28, 3) := by decide +kernel
theorem d_Tn_rounds_11 : decode prog_1_method_13_code 11 = .ok (.invokevirtual 89, 3) := by decide +kernel
theorem d_Tn_rounds_14 : decode prog_1_method_13_code 14 = .ok (.ireturn, 1) := by decide +kernel
theorem d_Tn_depth_0 : decode prog_1_method_14_code 0 = .ok (.iload_n 1, 1) := by decide +kernel
theorem d_Tn_depth_1 : decode prog_1_method_14_code 1 = .ok (.aload_n 0, 1) := by decide +kernel
theorem d_Tn_depth_2 : decode prog_1_method_14_code 2 = .ok (.getfield 12, 3) := by decide +kernel
theorem d_Tn_depth_5 : decode prog_1_method_14_code 5 = .ok (.invokevirtual 92, 3) := by decide +kernel
theorem d_Tn_depth_8 : decode prog_1_method_14_code 8 = .ok (.invokestatic 41, 3) := by decide +kernel
theorem d_Tn_depth_11 : decode prog_1_method_14_code 11 = .ok (.ifCond .ne 5, 3) := by decide +kernel
theorem d_Tn_depth_14 : decode prog_1_method_14_code 14 = .ok (.iconst (-1), 1) := by decide +kernel
theorem d_Tn_depth_15 : decode prog_1_method_14_code 15 = .ok (.ireturn, 1) := by decide +kernel
theorem d_Tn_depth_16 : decode prog_1_method_14_code 16 = .ok (.aload_n 0, 1) := by decide +kernel
theorem d_Tn_depth_17 : decode prog_1_method_14_code 17 = .ok (.getfield 28, 3) := by decide +kernel
theorem d_Tn_depth_20 : decode prog_1_method_14_code 20 = .ok (.invokevirtual 79, 3) := by decide +kernel
theorem d_Tn_depth_23 : decode prog_1_method_14_code 23 = .ok (.aload_n 0, 1) := by decide +kernel
theorem d_Tn_depth_24 : decode prog_1_method_14_code 24 = .ok (.getfield 28, 3) := by decide +kernel
theorem d_Tn_depth_27 : decode prog_1_method_14_code 27 = .ok (.iload_n 1, 1) := by decide +kernel
theorem d_Tn_depth_28 : decode prog_1_method_14_code 28 = .ok (.invokevirtual 95, 3) := by decide +kernel
theorem d_Tn_depth_31 : decode prog_1_method_14_code 31 = .ok (.ireturn, 1) := by decide +kernel
theorem d_Tn_individual_0 : decode prog_1_method_15_code 0 = .ok (.iload_n 1, 1) := by decide +kernel
theorem d_Tn_individual_1 : decode prog_1_method_15_code 1 = .ok (.iconst 5, 1) := by decide +kernel
theorem d_Tn_individual_2 : decode prog_1_method_15_code 2 = .ok (.invokestatic 41, 3) := by decide +kernel
theorem d_Tn_individual_5 : decode prog_1_method_15_code 5 = .ok (.ifCond .eq 26, 3) := by decide +kernel
theorem d_Tn_individual_8 : decode prog_1_method_15_code 8 = .ok (.aload_n 0, 1) := by decide +kernel
theorem d_Tn_individual_9 : decode prog_1_method_15_code 9 = .ok (.getfield 12, 3) := by decide +kernel
theorem d_Tn_individual_12 : decode prog_1_method_15_code 12 = .ok (.iload_n 2, 1) := by decide +kernel
theorem d_Tn_individual_13 : decode prog_1_method_15_code 13 = .ok (.invokevirtual 49, 3) := by decide +kernel
theorem d_Tn_individual_16 : decode prog_1_method_15_code 16 = .ok (.ifCond .eq 15, 3) := by decide +kernel
theorem d_Tn_individual_19 : decode prog_1_method_15_code 19 = .ok (.aload_n 0, 1) := by decide +kernel
theorem d_Tn_individual_20 : decode prog_1_method_15_code 20 = .ok (.getfield 37, 3) := by decide +kernel
theorem d_Tn_individual_23 : decode prog_1_method_15_code 23 = .ok (.iload_n 1, 1) := by decide +kernel
theorem d_Tn_individual_24 : decode prog_1_method_15_code 24 = .ok (.iload_n 2, 1) := by decide +kernel
theorem d_Tn_individual_25 : decode prog_1_method_15_code 25 = .ok (.invokevirtual 99, 3) := by decide +kernel
theorem d_Tn_individual_28 : decode prog_1_method_15_code 28 = .ok (.goto 4, 3) := by decide +kernel
theorem d_Tn_individual_31 : decode prog_1_method_15_code 31 = .ok (.iconst (-1), 1) := by decide +kernel
theorem d_Tn_individual_32 : decode prog_1_method_15_code 32 = .ok (.ireturn, 1) := by decide +kernel
noncomputable def bk_Th_leaveHalf_0 : List Int32 → List Int64 → tq_S → Option tq_C
  | [x1, x2, x3], [], σ => some (3, [x1, x2, x3, 0], [], σ)
  | _, _, _ => none
noncomputable def bk_Th_leaveHalf_3 : List Int32 → List Int64 → tq_S → Option tq_C
  | [x1, x2, x3, x4], [], σ => if (σ.2.2 9) ≤ x4 then some (tq_rt, [], [], σ) else tq_ob (tq_fL st_Co_atomWord (0, [x2, x4], [], σ)) (fun r3 σ4 => tq_gd ((x1 * 16) + x4) 400 (if x3 = 0 then tq_gd ((x1 * 16) + x4) 400 (tq_lj (lput σ4 5 ((x1 * 16) + x4).toNatClampNeg ((la σ4 5 ((x1 * 16) + x4)) &&& (r3 ^^^ (-1)))) (fun σ8 => tq_lj (x4 + 1) (fun v9 => some (3, [x1, x2, x3, v9], [], σ8)))) else tq_gd ((x1 * 16) + x4) 400 (tq_lj (lput σ4 5 ((x1 * 16) + x4).toNatClampNeg ((la σ4 5 ((x1 * 16) + x4)) &&& r3)) (fun σ11 => tq_lj (x4 + 1) (fun v12 => some (3, [x1, x2, x3, v12], [], σ11))))))
  | _, _, _ => none
noncomputable def st_Th_leaveHalf (c : tq_C) : Option tq_C := if c.1 = 0 then bk_Th_leaveHalf_0 c.2.1 c.2.2.1 c.2.2.2 else if c.1 = 3 then bk_Th_leaveHalf_3 c.2.1 c.2.2.1 c.2.2.2 else none
set_option maxHeartbeats 40000000 in
set_option maxRecDepth 100000 in
theorem c_Th_leaveHalf (l : Launch) (dC : Nat → ClassId) (dI : Nat → Nat → Nat) (cI cL cZ : ClassId) (ad : Nat → Nat) (tt : Nat) (sz : Nat) (σ : tq_S) (a1 : Int32) (a2 : Int32) (a3 : Int32) (σ' : tq_S) (hf : tq_fV st_Th_leaveHalf (0, [a1, a2, a3], [], σ) = some ((), σ')) : Met l y_Th_leaveHalf w_Th_leaveHalf ({ frames := 1, cells := 0, slots := 0, locals := 22 } : Room) (va_Pc [.ref (ad 4), .int a1, .int a2, .int a3] (tq_B dC dI cI cL cZ tt (wo cI cL cZ ad σ) sz)) (va_Qv (fun (u : tq_S) => u = σ') (tq_E dC dI cI cL cZ (wo cI cL cZ ad) (va_A (wo cI cL cZ ad σ) sz)) (va_A (wo cI cL cZ ad σ) sz)) 0 0 (va_A (wo cI cL cZ ad σ) sz) := by
  obtain ⟨n0, h0⟩ := tq_fV_to hf
  refine Met.ofW (cc := prog_5_method_22_code) (maxL := 7) (ret := none) (by decide) rfl ?_
  intro p e s m args below meth c s₁ B hml hv
  obtain ⟨rfl, hsz, hP, hK, hD0, hZ, hN⟩ := hv
  have hx := B.exec
  have hb := B.bytes
  have hr := B.returns
  have hts : ∀ w ∈ tq_T, w.before _ s = true := fun w h => atoms_spec (ws := w_Th_leaveHalf) B.pre w (List.mem_cons_of_mem _ h)
  have hown : s.vm.findClass "TableauNodes$Things" = some m.cls := findClass_of_methodNamed B.named
  have hlocks := B.notSynchronized
  subst hsz
  have hD := hD0.self (sz := s.heap.size)
  have hS : va_S (va_A (wo cI cL cZ ad σ) s.heap.size) s.heap s.heap [] := va_S.rf
  have hA : ∀ q : Nat, s.heap.size ≤ q → va_A (wo cI cL cZ ad σ) s.heap.size q := fun q h => Or.inr h
  generalize va_A (wo cI cL cZ ad σ) s.heap.size = A at hD hS hA hZ ⊢
  have hl := lv_entry ([.ref (ad 4), .int a1, .int a2, .int a3]) (n := 7) (Nat.le_of_ble_eq_true rfl)
  rw [lg_entry_eq]
  generalize (lg_sl ([.ref (ad 4), .int a1, .int a2, .int a3]) ++ List.replicate (7 - (lg_sl ([.ref (ad 4), .int a1, .int a2, .int a3])).length) Slot.unset).toArray = ls at hl ⊢
  have hl : lv_has ls 7 [(0, .ref (ad 4)), (1, .int a1), (2, .int a2), (3, .int a3)] := hl
  have key : ∀ n : Nat, (∀ {x1 x2 x3 : Int32} {σ : tq_S} {H : Heap} {locs : List Loc} {ls : Array Slot}, va_P (dC, dI) tq_cl (wo cI cL cZ ad σ) H → va_D A (wo cI cL cZ ad σ) → va_S A s.heap H locs → lv_has ls 7 [(0, .ref (ad 4)), (1, .int x1), (2, .int x2), (3, .int x3)] → tq_go st_Th_leaveHalf n (0, [x1, x2, x3], [], σ) = some (tq_rt, [], [], σ') → W p l e (headSpec w_Th_leaveHalf ({ frames := 1, cells := 0, slots := 0, locals := 22 } : Room)).room s m ([.ref (ad 4), .int a1, .int a2, .int a3] : List Value).toArray below meth c H locs 0 0 (MQ below (va_Qv (fun (u : tq_S) => u = σ') (tq_E dC dI cI cL cZ (wo cI cL cZ ad) A) A) ([.ref (ad 4), .int a1, .int a2, .int a3] : List Value).toArray s 0 0 A) (F0 m 0 ls [])) ∧ (∀ {x1 x2 x3 x4 : Int32} {σ : tq_S} {H : Heap} {locs : List Loc} {ls : Array Slot}, va_P (dC, dI) tq_cl (wo cI cL cZ ad σ) H → va_D A (wo cI cL cZ ad σ) → va_S A s.heap H locs → lv_has ls 7 [(0, .ref (ad 4)), (1, .int x1), (2, .int x2), (3, .int x3), (4, .int x4)] → tq_go st_Th_leaveHalf n (3, [x1, x2, x3, x4], [], σ) = some (tq_rt, [], [], σ') → W p l e (headSpec w_Th_leaveHalf ({ frames := 1, cells := 0, slots := 0, locals := 22 } : Room)).room s m ([.ref (ad 4), .int a1, .int a2, .int a3] : List Value).toArray below meth c H locs 0 0 (MQ below (va_Qv (fun (u : tq_S) => u = σ') (tq_E dC dI cI cL cZ (wo cI cL cZ ad) A) A) ([.ref (ad 4), .int a1, .int a2, .int a3] : List Value).toArray s 0 0 A) (F0 m 3 ls [])) := by
    intro n
    induction n with
    | zero => exact ⟨(fun _ _ _ _ h => by cases h), (fun _ _ _ _ h => by cases h)⟩
    | succ n ih =>
      refine ⟨?_, ?_⟩
      · intro x1 x2 x3 σ H locs ls hP hD hS hl h9
        obtain ⟨q9, hg, hn⟩ := tq_go_s h9 (show ¬ (0 : Nat) = tq_rt by decide)
        replace hg : bk_Th_leaveHalf_0 [x1, x2, x3] [] σ = some q9 := hg
        unfold bk_Th_leaveHalf_0 at hg
        refine lv_iconst (v := 0) hx hb d_Th_leaveHalf_0 (by decide) ?_
        refine lv_istore (lv' := [(4, .int 0), (0, .ref (ad 4)), (1, .int x1), (2, .int x2), (3, .int x3)]) hx hb d_Th_leaveHalf_1 hl (by decide) rfl (fun ls hl => ?_)
        exact ih.2 hP hD hS (lv_sub hl [1, 2, 3, 4, 0] rfl) (tq_gi hg hn)
      · intro x1 x2 x3 x4 σ H locs ls hP hD hS hl h9
        obtain ⟨q9, hg, hn⟩ := tq_go_s h9 (show ¬ (3 : Nat) = tq_rt by decide)
        replace hg : bk_Th_leaveHalf_3 [x1, x2, x3, x4] [] σ = some q9 := hg
        unfold bk_Th_leaveHalf_3 at hg
        refine lv_iload hx hb d_Th_leaveHalf_3 (lv_at hl 4 rfl) ?_
        refine lv_aload_n hx hb d_Th_leaveHalf_5 rfl (lv_at hl 0 rfl) ?_
        refine va_get (D := (dC, dI)) (ci := 4) (v := .int (σ.2.2 9)) (C := "TableauNodes$Things") (T := F_Th) (N := 15) hx hb hts in_Th hown hK hP 4 rfl rfl 10 (by decide) (hts _ tw_184) (fun _ h9 => h9) rfl d_Th_leaveHalf_6 ?_
        refine lv_icmp_ge (tgt := 60) hx hb d_Th_leaveHalf_9 (by decide) (fun c1 => ?_) (fun c1 => ?_)
        · replace hg := tq_if_t c1 hg
          exact W.vret hx hb hr (fun t ht hW => ⟨⟨σ, rfl, tq_grV hg hn, by rw [ht]; exact hP, va_K.moved hW.alike hK, hD⟩, hS.F ht⟩) hS.2.2 d_Th_leaveHalf_60
        · replace hg := tq_if_f c1 hg
          refine lv_aload_n hx hb d_Th_leaveHalf_12 rfl (lv_at hl 0 rfl) ?_
          refine va_get (D := (dC, dI)) (ci := 4) (v := .ref (ad 1)) (C := "TableauNodes$Things") (T := F_Th) (N := 15) hx hb hts in_Th hown hK hP 4 rfl rfl 0 (by decide) (hts _ tw_174) (fun _ h9 => h9) rfl d_Th_leaveHalf_13 ?_
          refine lv_iload_n hx hb d_Th_leaveHalf_16 rfl (lv_at hl 2 rfl) ?_
          refine lv_iload hx hb d_Th_leaveHalf_17 (lv_at hl 4 rfl) ?_
          obtain ⟨r3, σ4, f2, hg⟩ := tq_ob_s hg
          refine tq_aL (va_runV (As := [.int x2, .int x4]) (rest := []) ⟨hx, hb, hml, hown, hts⟩ (c_Co_atomWord l dC dI cI cL cZ ad tt H.size σ x2 x4  r3 σ4 f2) (cwV 2 hts (tq_gV tw_503 tw_43 tw_44 tw_2 tw_45) rfl rfl rfl (by decide +kernel) ⟨Nat.le_of_ble_eq_true rfl, Nat.le_of_ble_eq_true rfl⟩) ⟨tq_bl, va_recv hK hP (ci := 1) (q0 := 1) rfl rfl, (tq_pr hP hK hD hS hA hZ hN)⟩ rfl rfl hl.1 rfl (lv_room (Nat.le_of_ble_eq_true rfl)) d_Th_leaveHalf_19 ⟨Nat.zero_le _, Nat.zero_le _⟩) hD hS hA (fun H locs hP hD hS => ?_)
          refine lv_lstore (lv' := [(5, .long r3), (0, .ref (ad 4)), (1, .int x1), (2, .int x2), (3, .int x3), (4, .int x4)]) hx hb d_Th_leaveHalf_22 hl (by decide) rfl (fun ls hl => ?_)
          refine lv_aload_n hx hb d_Th_leaveHalf_24 rfl (lv_at hl 1 rfl) ?_
          refine va_get (D := (dC, dI)) (ci := 4) (v := .ref (ad 26)) (C := "TableauNodes$Things") (T := F_Th) (N := 15) hx hb hts in_Th hown hK hP 4 rfl rfl 7 (by decide) (hts _ tw_181) (fun _ h9 => h9) rfl d_Th_leaveHalf_25 ?_
          refine lv_iload_n hx hb d_Th_leaveHalf_28 rfl (lv_at hl 2 rfl) ?_
          refine lv_bipush (v := 16) hx hb d_Th_leaveHalf_29 (by decide) ?_
          refine lv_imul hx hb d_Th_leaveHalf_31 ?_
          refine lv_iload hx hb d_Th_leaveHalf_32 (lv_at hl 5 rfl) ?_
          refine lv_iadd hx hb d_Th_leaveHalf_34 ?_
          refine lv_dup2_11 hx hb d_Th_leaveHalf_35 rfl rfl ?_
          obtain ⟨g5, hg⟩ := tq_gd_s hg
          refine va_lald hx hb hK hP 26 1 rfl rfl g5 d_Th_leaveHalf_36 ?_
          refine lv_iload_n hx hb d_Th_leaveHalf_37 rfl (lv_at hl 4 rfl) ?_
          refine lv_if_eq (tgt := 46) hx hb d_Th_leaveHalf_38 (by decide) (fun c6 => ?_) (fun c6 => ?_)
          · replace hg := tq_if_t c6 hg
            refine lv_lload hx hb d_Th_leaveHalf_46 (lv_at hl 0 rfl) ?_
            refine lv_ldc2 (v := (-1)) hx hb hown (hts _ tw_173) d_Th_leaveHalf_48 ?_
            refine lv_lxor hx hb d_Th_leaveHalf_51 ?_
            refine lv_land hx hb d_Th_leaveHalf_52 ?_
            obtain ⟨g7, hg⟩ := tq_gd_s hg
            refine va_last hx hb hK hP hD hS 26 1 rfl rfl g7 d_Th_leaveHalf_53 (fun H locs hP hD hS => ?_)
            obtain ⟨σ8, eσ8, hg⟩ := tq_lj_s hg
            replace hP : va_P (dC, dI) tq_cl (wo cI cL cZ ad σ8) H := by rw [eσ8, ← ws_l5]; exact hP
            replace hD : va_D A (wo cI cL cZ ad σ8) := by rw [eσ8, ← ws_l5]; exact hD
            obtain ⟨v9, ev9, hg⟩ := tq_lj_s hg
            refine lv_iinc (v := v9) (lv' := [(4, .int v9), (5, .long r3), (0, .ref (ad 4)), (1, .int x1), (2, .int x2), (3, .int x3)]) hx hb d_Th_leaveHalf_54 hl (k := 5) rfl (by rw [ev9]; rfl) (by decide) rfl (fun ls hl => ?_)
            refine lv_goto (tgt := 3) hx hb d_Th_leaveHalf_57 (by decide) ?_
            exact ih.2 hP hD hS (lv_sub hl [2, 3, 4, 5, 0] rfl) (tq_gi hg hn)
          · replace hg := tq_if_f c6 hg
            refine lv_lload hx hb d_Th_leaveHalf_41 (lv_at hl 0 rfl) ?_
            refine lv_goto (tgt := 52) hx hb d_Th_leaveHalf_43 (by decide) ?_
            refine lv_land hx hb d_Th_leaveHalf_52 ?_
            obtain ⟨g10, hg⟩ := tq_gd_s hg
            refine va_last hx hb hK hP hD hS 26 1 rfl rfl g10 d_Th_leaveHalf_53 (fun H locs hP hD hS => ?_)
            obtain ⟨σ11, eσ11, hg⟩ := tq_lj_s hg
            replace hP : va_P (dC, dI) tq_cl (wo cI cL cZ ad σ11) H := by rw [eσ11, ← ws_l5]; exact hP
            replace hD : va_D A (wo cI cL cZ ad σ11) := by rw [eσ11, ← ws_l5]; exact hD
            obtain ⟨v12, ev12, hg⟩ := tq_lj_s hg
            refine lv_iinc (v := v12) (lv' := [(4, .int v12), (5, .long r3), (0, .ref (ad 4)), (1, .int x1), (2, .int x2), (3, .int x3)]) hx hb d_Th_leaveHalf_54 hl (k := 5) rfl (by rw [ev12]; rfl) (by decide) rfl (fun ls hl => ?_)
            refine lv_goto (tgt := 3) hx hb d_Th_leaveHalf_57 (by decide) ?_
            exact ih.2 hP hD hS (lv_sub hl [2, 3, 4, 5, 0] rfl) (tq_gi hg hn)
  exact (key n0).1 hP hD hS hl h0
noncomputable def bk_Th_leaveLeast_0 : List Int32 → List Int64 → tq_S → Option tq_C
  | [x1], [], σ => tq_ob (tq_fI st_Co_atomCount (0, [], [], σ)) (fun r2 σ3 => tq_lj (r2 - 1) (fun v4 => some (10, [x1, v4], [], σ3)))
  | _, _, _ => none
noncomputable def bk_Th_leaveLeast_10 : List Int32 → List Int64 → tq_S → Option tq_C
  | [x1, x2], [], σ => if x2 < 0 then some (tq_rt, [], [], σ) else tq_ob (tq_fI st_Th_countLeft (0, [0, x1], [], σ)) (fun r7 σ8 => tq_ob (tq_fV st_Th_keepSpare (0, [x1], [], σ8)) (fun _ σ11 => tq_ob (tq_fV st_Th_leaveHalf (0, [x1, x2, 0], [], σ11)) (fun _ σ14 => tq_ob (tq_fI st_Th_countLeft (0, [0, x1], [], σ14)) (fun r16 σ17 => if r16 = r7 then tq_lj (x2 + (-1)) (fun v19 => some (10, [x1, v19], [], σ17)) else tq_ob (fx_canExtend 6 (0, [0, 31], [], σ17)) (fun r21 σ22 => if ¬ r21 = 0 then tq_lj (x2 + (-1)) (fun v24 => some (10, [x1, v24], [], σ22)) else tq_ob (tq_fV st_Th_takeSpare (0, [x1], [], σ22)) (fun _ σ27 => tq_ob (tq_fV st_Th_leaveHalf (0, [x1, x2, 1], [], σ27)) (fun _ σ30 => tq_lj (x2 + (-1)) (fun v31 => some (10, [x1, v31], [], σ30)))))))))
  | _, _, _ => none
noncomputable def st_Th_leaveLeast (c : tq_C) : Option tq_C := if c.1 = 0 then bk_Th_leaveLeast_0 c.2.1 c.2.2.1 c.2.2.2 else if c.1 = 10 then bk_Th_leaveLeast_10 c.2.1 c.2.2.1 c.2.2.2 else none
set_option maxHeartbeats 40000000 in
set_option maxRecDepth 100000 in
theorem c_Th_leaveLeast (l : Launch) (dC : Nat → ClassId) (dI : Nat → Nat → Nat) (cI cL cZ : ClassId) (ad : Nat → Nat) (tt : Nat) (sz : Nat) (σ : tq_S) (a1 : Int32) (σ' : tq_S) (hf : tq_fV st_Th_leaveLeast (0, [a1], [], σ) = some ((), σ')) : Met l y_Th_leaveLeast w_Th_leaveLeast ({ frames := 10, cells := 0, slots := 0, locals := 275 } : Room) (va_Pc [.ref (ad 4), .int a1] (tq_B dC dI cI cL cZ tt (wo cI cL cZ ad σ) sz)) (va_Qv (fun (u : tq_S) => u = σ') (tq_E dC dI cI cL cZ (wo cI cL cZ ad) (va_A (wo cI cL cZ ad σ) sz)) (va_A (wo cI cL cZ ad σ) sz)) 0 0 (va_A (wo cI cL cZ ad σ) sz) := by
  obtain ⟨n0, h0⟩ := tq_fV_to hf
  refine Met.ofW (cc := prog_5_method_21_code) (maxL := 5) (ret := none) (by decide) rfl ?_
  intro p e s m args below meth c s₁ B hml hv
  obtain ⟨rfl, hsz, hP, hK, hD0, hZ, hN⟩ := hv
  have hx := B.exec
  have hb := B.bytes
  have hr := B.returns
  have hts : ∀ w ∈ tq_T, w.before _ s = true := fun w h => atoms_spec (ws := w_Th_leaveLeast) B.pre w (List.mem_cons_of_mem _ h)
  have hown : s.vm.findClass "TableauNodes$Things" = some m.cls := findClass_of_methodNamed B.named
  have hlocks := B.notSynchronized
  subst hsz
  have hD := hD0.self (sz := s.heap.size)
  have hS : va_S (va_A (wo cI cL cZ ad σ) s.heap.size) s.heap s.heap [] := va_S.rf
  have hA : ∀ q : Nat, s.heap.size ≤ q → va_A (wo cI cL cZ ad σ) s.heap.size q := fun q h => Or.inr h
  generalize va_A (wo cI cL cZ ad σ) s.heap.size = A at hD hS hA hZ ⊢
  have hl := lv_entry ([.ref (ad 4), .int a1]) (n := 5) (Nat.le_of_ble_eq_true rfl)
  rw [lg_entry_eq]
  generalize (lg_sl ([.ref (ad 4), .int a1]) ++ List.replicate (5 - (lg_sl ([.ref (ad 4), .int a1])).length) Slot.unset).toArray = ls at hl ⊢
  have hl : lv_has ls 5 [(0, .ref (ad 4)), (1, .int a1)] := hl
  have key : ∀ n : Nat, (∀ {x1 : Int32} {σ : tq_S} {H : Heap} {locs : List Loc} {ls : Array Slot}, va_P (dC, dI) tq_cl (wo cI cL cZ ad σ) H → va_D A (wo cI cL cZ ad σ) → va_S A s.heap H locs → lv_has ls 5 [(0, .ref (ad 4)), (1, .int x1)] → tq_go st_Th_leaveLeast n (0, [x1], [], σ) = some (tq_rt, [], [], σ') → W p l e (headSpec w_Th_leaveLeast ({ frames := 10, cells := 0, slots := 0, locals := 275 } : Room)).room s m ([.ref (ad 4), .int a1] : List Value).toArray below meth c H locs 0 0 (MQ below (va_Qv (fun (u : tq_S) => u = σ') (tq_E dC dI cI cL cZ (wo cI cL cZ ad) A) A) ([.ref (ad 4), .int a1] : List Value).toArray s 0 0 A) (F0 m 0 ls [])) ∧ (∀ {x1 x2 : Int32} {σ : tq_S} {H : Heap} {locs : List Loc} {ls : Array Slot}, va_P (dC, dI) tq_cl (wo cI cL cZ ad σ) H → va_D A (wo cI cL cZ ad σ) → va_S A s.heap H locs → lv_has ls 5 [(0, .ref (ad 4)), (1, .int x1), (2, .int x2)] → tq_go st_Th_leaveLeast n (10, [x1, x2], [], σ) = some (tq_rt, [], [], σ') → W p l e (headSpec w_Th_leaveLeast ({ frames := 10, cells := 0, slots := 0, locals := 275 } : Room)).room s m ([.ref (ad 4), .int a1] : List Value).toArray below meth c H locs 0 0 (MQ below (va_Qv (fun (u : tq_S) => u = σ') (tq_E dC dI cI cL cZ (wo cI cL cZ ad) A) A) ([.ref (ad 4), .int a1] : List Value).toArray s 0 0 A) (F0 m 10 ls [])) := by
    intro n
    induction n with
    | zero => exact ⟨(fun _ _ _ _ h => by cases h), (fun _ _ _ _ h => by cases h)⟩
    | succ n ih =>
      refine ⟨?_, ?_⟩
      · intro x1 σ H locs ls hP hD hS hl h9
        obtain ⟨q9, hg, hn⟩ := tq_go_s h9 (show ¬ (0 : Nat) = tq_rt by decide)
        replace hg : bk_Th_leaveLeast_0 [x1] [] σ = some q9 := hg
        unfold bk_Th_leaveLeast_0 at hg
        refine lv_aload_n hx hb d_Th_leaveLeast_0 rfl (lv_at hl 0 rfl) ?_
        refine va_get (D := (dC, dI)) (ci := 4) (v := .ref (ad 1)) (C := "TableauNodes$Things") (T := F_Th) (N := 15) hx hb hts in_Th hown hK hP 4 rfl rfl 0 (by decide) (hts _ tw_174) (fun _ h9 => h9) rfl d_Th_leaveLeast_1 ?_
        obtain ⟨r2, σ3, f1, hg⟩ := tq_ob_s hg
        refine tq_aI (va_runV (As := []) (rest := []) ⟨hx, hb, hml, hown, hts⟩ (c_Co_atomCount l dC dI cI cL cZ ad tt H.size σ   r2 σ3 f1) (cwV 0 hts (tq_gV tw_563 tw_275 tw_276 tw_2 tw_277) rfl rfl rfl (by decide +kernel) ⟨Nat.le_of_ble_eq_true rfl, Nat.le_of_ble_eq_true rfl⟩) ⟨tq_bl, va_recv hK hP (ci := 1) (q0 := 1) rfl rfl, (tq_pr hP hK hD hS hA hZ hN)⟩ rfl rfl hl.1 rfl (lv_room (Nat.le_of_ble_eq_true rfl)) d_Th_leaveLeast_4 ⟨Nat.zero_le _, Nat.zero_le _⟩) hD hS hA (fun H locs hP hD hS => ?_)
        refine lv_iconst (v := 1) hx hb d_Th_leaveLeast_7 (by decide) ?_
        refine lv_isub hx hb d_Th_leaveLeast_8 ?_
        obtain ⟨v4, ev4, hg⟩ := tq_lj_s hg
        refine tq_nmi ev4 ?_
        refine lv_istore_n (lv' := [(2, .int v4), (0, .ref (ad 4)), (1, .int x1)]) hx hb d_Th_leaveLeast_9 rfl hl (by decide) rfl (fun ls hl => ?_)
        exact ih.2 hP hD hS (lv_sub hl [1, 2, 0] rfl) (tq_gi hg hn)
      · intro x1 x2 σ H locs ls hP hD hS hl h9
        obtain ⟨q9, hg, hn⟩ := tq_go_s h9 (show ¬ (10 : Nat) = tq_rt by decide)
        replace hg : bk_Th_leaveLeast_10 [x1, x2] [] σ = some q9 := hg
        unfold bk_Th_leaveLeast_10 at hg
        refine lv_iload_n hx hb d_Th_leaveLeast_10 rfl (lv_at hl 2 rfl) ?_
        refine lv_if_lt (tgt := 75) hx hb d_Th_leaveLeast_11 (by decide) (fun c5 => ?_) (fun c5 => ?_)
        · replace hg := tq_if_t c5 hg
          exact W.vret hx hb hr (fun t ht hW => ⟨⟨σ, rfl, tq_grV hg hn, by rw [ht]; exact hP, va_K.moved hW.alike hK, hD⟩, hS.F ht⟩) hS.2.2 d_Th_leaveLeast_75
        · replace hg := tq_if_f c5 hg
          refine lv_aload_n hx hb d_Th_leaveLeast_14 rfl (lv_at hl 0 rfl) ?_
          refine lv_iconst (v := 0) hx hb d_Th_leaveLeast_15 (by decide) ?_
          refine lv_iload_n hx hb d_Th_leaveLeast_16 rfl (lv_at hl 1 rfl) ?_
          obtain ⟨r7, σ8, f6, hg⟩ := tq_ob_s hg
          refine tq_aI (va_runV (As := [.int 0, .int x1]) (rest := []) ⟨hx, hb, hml, hown, hts⟩ (c_Th_countLeft l dC dI cI cL cZ ad tt H.size σ 0 x1  r7 σ8 f6) (cwV 2 hts (tq_gV tw_517 tw_519 ts_21 tw_5 tw_520) rfl rfl rfl (by decide +kernel) ⟨Nat.le_of_ble_eq_true rfl, Nat.le_of_ble_eq_true rfl⟩) ⟨tq_bl, va_recv hK hP (ci := 4) (q0 := 4) rfl rfl, (tq_pr hP hK hD hS hA hZ hN)⟩ rfl rfl hl.1 rfl (lv_room (Nat.le_of_ble_eq_true rfl)) d_Th_leaveLeast_17 ⟨Nat.zero_le _, Nat.zero_le _⟩) hD hS hA (fun H locs hP hD hS => ?_)
          refine lv_istore_n (lv' := [(3, .int r7), (0, .ref (ad 4)), (1, .int x1), (2, .int x2)]) hx hb d_Th_leaveLeast_20 rfl hl (by decide) rfl (fun ls hl => ?_)
          refine lv_aload_n hx hb d_Th_leaveLeast_21 rfl (lv_at hl 1 rfl) ?_
          refine lv_iload_n hx hb d_Th_leaveLeast_22 rfl (lv_at hl 2 rfl) ?_
          obtain ⟨⟨⟩, σ11, f9, hg⟩ := tq_ob_s hg
          refine tq_aV (va_runV (As := [.int x1]) (rest := []) ⟨hx, hb, hml, hown, hts⟩ (c_Th_keepSpare l dC dI cI cL cZ ad tt H.size σ8 x1   σ11 f9) (cwV 1 hts (tq_gV tw_548 tw_550 ts_28 tw_5 tw_551) rfl rfl rfl (by decide +kernel) ⟨Nat.le_of_ble_eq_true rfl, Nat.le_of_ble_eq_true rfl⟩) ⟨tq_bl, va_recv hK hP (ci := 4) (q0 := 4) rfl rfl, (tq_pr hP hK hD hS hA hZ hN)⟩ rfl rfl hl.1 rfl (lv_room (Nat.le_of_ble_eq_true rfl)) d_Th_leaveLeast_23 ⟨Nat.zero_le _, Nat.zero_le _⟩) hD hS hA (fun H locs hP hD hS => ?_)
          refine lv_aload_n hx hb d_Th_leaveLeast_26 rfl (lv_at hl 1 rfl) ?_
          refine lv_iload_n hx hb d_Th_leaveLeast_27 rfl (lv_at hl 2 rfl) ?_
          refine lv_iload_n hx hb d_Th_leaveLeast_28 rfl (lv_at hl 3 rfl) ?_
          refine lv_iconst (v := 0) hx hb d_Th_leaveLeast_29 (by decide) ?_
          obtain ⟨⟨⟩, σ14, f12, hg⟩ := tq_ob_s hg
          refine tq_aV (va_runV (As := [.int x1, .int x2, .int 0]) (rest := []) ⟨hx, hb, hml, hown, hts⟩ (c_Th_leaveHalf l dC dI cI cL cZ ad tt H.size σ11 x1 x2 0   σ14 f12) (cwV 3 hts (tq_gV tw_564 tw_566 ts_31 tw_5 tw_567) rfl rfl rfl (by decide +kernel) ⟨Nat.le_of_ble_eq_true rfl, Nat.le_of_ble_eq_true rfl⟩) ⟨tq_bl, va_recv hK hP (ci := 4) (q0 := 4) rfl rfl, (tq_pr hP hK hD hS hA hZ hN)⟩ rfl rfl hl.1 rfl (lv_room (Nat.le_of_ble_eq_true rfl)) d_Th_leaveLeast_30 ⟨Nat.zero_le _, Nat.zero_le _⟩) hD hS hA (fun H locs hP hD hS => ?_)
          refine lv_aload_n hx hb d_Th_leaveLeast_33 rfl (lv_at hl 1 rfl) ?_
          refine lv_iconst (v := 0) hx hb d_Th_leaveLeast_34 (by decide) ?_
          refine lv_iload_n hx hb d_Th_leaveLeast_35 rfl (lv_at hl 2 rfl) ?_
          obtain ⟨r16, σ17, f15, hg⟩ := tq_ob_s hg
          refine tq_aI (va_runV (As := [.int 0, .int x1]) (rest := []) ⟨hx, hb, hml, hown, hts⟩ (c_Th_countLeft l dC dI cI cL cZ ad tt H.size σ14 0 x1  r16 σ17 f15) (cwV 2 hts (tq_gV tw_517 tw_519 ts_21 tw_5 tw_520) rfl rfl rfl (by decide +kernel) ⟨Nat.le_of_ble_eq_true rfl, Nat.le_of_ble_eq_true rfl⟩) ⟨tq_bl, va_recv hK hP (ci := 4) (q0 := 4) rfl rfl, (tq_pr hP hK hD hS hA hZ hN)⟩ rfl rfl hl.1 rfl (lv_room (Nat.le_of_ble_eq_true rfl)) d_Th_leaveLeast_36 ⟨Nat.zero_le _, Nat.zero_le _⟩) hD hS hA (fun H locs hP hD hS => ?_)
          refine lv_istore (lv' := [(4, .int r16), (3, .int r7), (0, .ref (ad 4)), (1, .int x1), (2, .int x2)]) hx hb d_Th_leaveLeast_39 hl (by decide) rfl (fun ls hl => ?_)
          refine lv_iload hx hb d_Th_leaveLeast_41 (lv_at hl 0 rfl) ?_
          refine lv_iload_n hx hb d_Th_leaveLeast_43 rfl (lv_at hl 1 rfl) ?_
          refine lv_icmp_eq (tgt := 69) hx hb d_Th_leaveLeast_44 (by decide) (fun c18 => ?_) (fun c18 => ?_)
          · replace hg := tq_if_t c18 hg
            obtain ⟨v19, ev19, hg⟩ := tq_lj_s hg
            refine lv_iinc (v := v19) (lv' := [(2, .int v19), (4, .int r16), (3, .int r7), (0, .ref (ad 4)), (1, .int x1)]) hx hb d_Th_leaveLeast_69 hl (k := 4) rfl (by rw [ev19]; rfl) (by decide) rfl (fun ls hl => ?_)
            refine lv_goto (tgt := 10) hx hb d_Th_leaveLeast_72 (by decide) ?_
            exact ih.2 hP hD hS (lv_sub hl [3, 4, 0] rfl) (tq_gi hg hn)
          · replace hg := tq_if_f c18 hg
            refine lv_aload_n hx hb d_Th_leaveLeast_47 rfl (lv_at hl 2 rfl) ?_
            refine lv_iconst (v := 0) hx hb d_Th_leaveLeast_48 (by decide) ?_
            refine lv_bipush (v := 31) hx hb d_Th_leaveLeast_49 (by decide) ?_
            obtain ⟨r21, σ22, f20, hg⟩ := tq_ob_s hg
            refine tq_aI (va_runV (As := [.int 0, .int 31]) (rest := []) ⟨hx, hb, hml, hown, hts⟩ (c_Th_canExtend l dC dI cI cL cZ ad tt 6 H.size σ17 0 31  r21 σ22 f20) (cwV 2 hts (tq_gV tw_508 tw_510 ts_19 tw_5 tw_511) rfl rfl rfl (by decide +kernel) ⟨Nat.le_of_ble_eq_true rfl, Nat.le_of_ble_eq_true rfl⟩) ⟨tq_bl, va_recv hK hP (ci := 4) (q0 := 4) rfl rfl, (tq_pr hP hK hD hS hA hZ hN)⟩ rfl rfl hl.1 rfl (lv_room (Nat.le_of_ble_eq_true rfl)) d_Th_leaveLeast_51 ⟨Nat.zero_le _, Nat.zero_le _⟩) hD hS hA (fun H locs hP hD hS => ?_)
            refine lv_if_ne (tgt := 69) hx hb d_Th_leaveLeast_54 (by decide) (fun c23 => ?_) (fun c23 => ?_)
            · replace hg := tq_if_t c23 hg
              obtain ⟨v24, ev24, hg⟩ := tq_lj_s hg
              refine lv_iinc (v := v24) (lv' := [(2, .int v24), (4, .int r16), (3, .int r7), (0, .ref (ad 4)), (1, .int x1)]) hx hb d_Th_leaveLeast_69 hl (k := 4) rfl (by rw [ev24]; rfl) (by decide) rfl (fun ls hl => ?_)
              refine lv_goto (tgt := 10) hx hb d_Th_leaveLeast_72 (by decide) ?_
              exact ih.2 hP hD hS (lv_sub hl [3, 4, 0] rfl) (tq_gi hg hn)
            · replace hg := tq_if_n c23 hg
              refine lv_aload_n hx hb d_Th_leaveLeast_57 rfl (lv_at hl 2 rfl) ?_
              refine lv_iload_n hx hb d_Th_leaveLeast_58 rfl (lv_at hl 3 rfl) ?_
              obtain ⟨⟨⟩, σ27, f25, hg⟩ := tq_ob_s hg
              refine tq_aV (va_runV (As := [.int x1]) (rest := []) ⟨hx, hb, hml, hown, hts⟩ (c_Th_takeSpare l dC dI cI cL cZ ad tt H.size σ22 x1   σ27 f25) (cwV 1 hts (tq_gV tw_555 tw_557 ts_29 tw_5 tw_558) rfl rfl rfl (by decide +kernel) ⟨Nat.le_of_ble_eq_true rfl, Nat.le_of_ble_eq_true rfl⟩) ⟨tq_bl, va_recv hK hP (ci := 4) (q0 := 4) rfl rfl, (tq_pr hP hK hD hS hA hZ hN)⟩ rfl rfl hl.1 rfl (lv_room (Nat.le_of_ble_eq_true rfl)) d_Th_leaveLeast_59 ⟨Nat.zero_le _, Nat.zero_le _⟩) hD hS hA (fun H locs hP hD hS => ?_)
              refine lv_aload_n hx hb d_Th_leaveLeast_62 rfl (lv_at hl 2 rfl) ?_
              refine lv_iload_n hx hb d_Th_leaveLeast_63 rfl (lv_at hl 3 rfl) ?_
              refine lv_iload_n hx hb d_Th_leaveLeast_64 rfl (lv_at hl 4 rfl) ?_
              refine lv_iconst (v := 1) hx hb d_Th_leaveLeast_65 (by decide) ?_
              obtain ⟨⟨⟩, σ30, f28, hg⟩ := tq_ob_s hg
              refine tq_aV (va_runV (As := [.int x1, .int x2, .int 1]) (rest := []) ⟨hx, hb, hml, hown, hts⟩ (c_Th_leaveHalf l dC dI cI cL cZ ad tt H.size σ27 x1 x2 1   σ30 f28) (cwV 3 hts (tq_gV tw_564 tw_566 ts_31 tw_5 tw_567) rfl rfl rfl (by decide +kernel) ⟨Nat.le_of_ble_eq_true rfl, Nat.le_of_ble_eq_true rfl⟩) ⟨tq_bl, va_recv hK hP (ci := 4) (q0 := 4) rfl rfl, (tq_pr hP hK hD hS hA hZ hN)⟩ rfl rfl hl.1 rfl (lv_room (Nat.le_of_ble_eq_true rfl)) d_Th_leaveLeast_66 ⟨Nat.zero_le _, Nat.zero_le _⟩) hD hS hA (fun H locs hP hD hS => ?_)
              obtain ⟨v31, ev31, hg⟩ := tq_lj_s hg
              refine lv_iinc (v := v31) (lv' := [(2, .int v31), (4, .int r16), (3, .int r7), (0, .ref (ad 4)), (1, .int x1)]) hx hb d_Th_leaveLeast_69 hl (k := 4) rfl (by rw [ev31]; rfl) (by decide) rfl (fun ls hl => ?_)
              refine lv_goto (tgt := 10) hx hb d_Th_leaveLeast_72 (by decide) ?_
              exact ih.2 hP hD hS (lv_sub hl [3, 4, 0] rfl) (tq_gi hg hn)
  exact (key n0).1 hP hD hS hl h0
noncomputable def bk_Th_settle_0 : List Int32 → List Int64 → tq_S → Option tq_C
  | [], [], σ => if ¬ (σ.2.2 11) = 0 then some (22, [], [], σ) else tq_ob (tq_fI st_Go_version (0, [], [], σ)) (fun r3 σ4 => if ¬ (σ.2.2 12) = r3 then some (22, [], [], σ4) else some (tq_rt, [], [], σ4))
  | _, _, _ => none
noncomputable def bk_Th_settle_22 : List Int32 → List Int64 → tq_S → Option tq_C
  | [], [], σ => tq_ob (tq_fV st_Th_sortLinks (0, [], [], σ)) (fun _ σ8 => tq_ob (tq_fV st_Th_begin (0, [], [], σ8)) (fun _ σ11 => tq_ob (fx_canExtend 6 (0, [0, 31], [], σ11)) (fun r13 σ14 => tq_gb r13 (tq_lj (fput σ14 10 r13) (fun σ15 => some (43, [0], [], σ15))))))
  | _, _, _ => none
noncomputable def bk_Th_settle_43 : List Int32 → List Int64 → tq_S → Option tq_C
  | [x1], [], σ => if 5 ≤ x1 then tq_lj (fput σ 11 0) (fun σ18 => tq_ob (tq_fI st_Go_version (0, [], [], σ18)) (fun r20 σ21 => tq_lj (fput σ21 12 r20) (fun σ22 => some (tq_rt, [], [], σ22)))) else if (σ.2.2 10) = 0 then some (68, [x1], [], σ) else tq_ob (tq_fI st_Th_leaveFirst (0, [x1], [], σ)) (fun r25 σ26 => if ¬ r25 = 0 then some (68, [x1], [], σ26) else tq_ob (tq_fV st_Th_leaveLeast (0, [x1], [], σ26)) (fun _ σ30 => some (68, [x1], [], σ30)))
  | _, _, _ => none
noncomputable def bk_Th_settle_68 : List Int32 → List Int64 → tq_S → Option tq_C
  | [x1], [], σ => if (σ.2.2 10) = 0 then tq_gd x1 5 (tq_lj (iput σ 16 x1.toNatClampNeg (-2)) (fun σ33 => tq_lj (x1 + 1) (fun v34 => some (43, [v34], [], σ33)))) else tq_ob (tq_fI st_Th_firstLeft (0, [x1], [], σ)) (fun r36 σ37 => tq_gd x1 5 (tq_lj (iput σ37 16 x1.toNatClampNeg r36) (fun σ39 => tq_lj (x1 + 1) (fun v40 => some (43, [v40], [], σ39)))))
  | _, _, _ => none
noncomputable def st_Th_settle (c : tq_C) : Option tq_C := if c.1 = 0 then bk_Th_settle_0 c.2.1 c.2.2.1 c.2.2.2 else if c.1 = 22 then bk_Th_settle_22 c.2.1 c.2.2.1 c.2.2.2 else if c.1 = 43 then bk_Th_settle_43 c.2.1 c.2.2.1 c.2.2.2 else if c.1 = 68 then bk_Th_settle_68 c.2.1 c.2.2.1 c.2.2.2 else none
set_option maxHeartbeats 40000000 in
set_option maxRecDepth 100000 in
theorem c_Th_settle (l : Launch) (dC : Nat → ClassId) (dI : Nat → Nat → Nat) (cI cL cZ : ClassId) (ad : Nat → Nat) (tt : Nat) (sz : Nat) (σ : tq_S) (σ' : tq_S) (hf : tq_fV st_Th_settle (0, [], [], σ) = some ((), σ')) : Met l y_Th_settle w_Th_settle ({ frames := 11, cells := 0, slots := 0, locals := 300 } : Room) (va_Pc [.ref (ad 4)] (tq_B dC dI cI cL cZ tt (wo cI cL cZ ad σ) sz)) (va_Qv (fun (u : tq_S) => u = σ') (tq_E dC dI cI cL cZ (wo cI cL cZ ad) (va_A (wo cI cL cZ ad σ) sz)) (va_A (wo cI cL cZ ad σ) sz)) 0 0 (va_A (wo cI cL cZ ad σ) sz) := by
  obtain ⟨n0, h0⟩ := tq_fV_to hf
  refine Met.ofW (cc := prog_5_method_5_code) (maxL := 2) (ret := none) (by decide) rfl ?_
  intro p e s m args below meth c s₁ B hml hv
  obtain ⟨rfl, hsz, hP, hK, hD0, hZ, hN⟩ := hv
  have hx := B.exec
  have hb := B.bytes
  have hr := B.returns
  have hts : ∀ w ∈ tq_T, w.before _ s = true := fun w h => atoms_spec (ws := w_Th_settle) B.pre w (List.mem_cons_of_mem _ h)
  have hown : s.vm.findClass "TableauNodes$Things" = some m.cls := findClass_of_methodNamed B.named
  have hlocks := B.notSynchronized
  subst hsz
  have hD := hD0.self (sz := s.heap.size)
  have hS : va_S (va_A (wo cI cL cZ ad σ) s.heap.size) s.heap s.heap [] := va_S.rf
  have hA : ∀ q : Nat, s.heap.size ≤ q → va_A (wo cI cL cZ ad σ) s.heap.size q := fun q h => Or.inr h
  generalize va_A (wo cI cL cZ ad σ) s.heap.size = A at hD hS hA hZ ⊢
  have hl := lv_entry ([.ref (ad 4)]) (n := 2) (Nat.le_of_ble_eq_true rfl)
  rw [lg_entry_eq]
  generalize (lg_sl ([.ref (ad 4)]) ++ List.replicate (2 - (lg_sl ([.ref (ad 4)])).length) Slot.unset).toArray = ls at hl ⊢
  have hl : lv_has ls 2 [(0, .ref (ad 4))] := hl
  have key : ∀ n : Nat, (∀ {σ : tq_S} {H : Heap} {locs : List Loc} {ls : Array Slot}, va_P (dC, dI) tq_cl (wo cI cL cZ ad σ) H → va_D A (wo cI cL cZ ad σ) → va_S A s.heap H locs → lv_has ls 2 [(0, .ref (ad 4))] → tq_go st_Th_settle n (0, [], [], σ) = some (tq_rt, [], [], σ') → W p l e (headSpec w_Th_settle ({ frames := 11, cells := 0, slots := 0, locals := 300 } : Room)).room s m ([.ref (ad 4)] : List Value).toArray below meth c H locs 0 0 (MQ below (va_Qv (fun (u : tq_S) => u = σ') (tq_E dC dI cI cL cZ (wo cI cL cZ ad) A) A) ([.ref (ad 4)] : List Value).toArray s 0 0 A) (F0 m 0 ls [])) ∧ (∀ {σ : tq_S} {H : Heap} {locs : List Loc} {ls : Array Slot}, va_P (dC, dI) tq_cl (wo cI cL cZ ad σ) H → va_D A (wo cI cL cZ ad σ) → va_S A s.heap H locs → lv_has ls 2 [(0, .ref (ad 4))] → tq_go st_Th_settle n (22, [], [], σ) = some (tq_rt, [], [], σ') → W p l e (headSpec w_Th_settle ({ frames := 11, cells := 0, slots := 0, locals := 300 } : Room)).room s m ([.ref (ad 4)] : List Value).toArray below meth c H locs 0 0 (MQ below (va_Qv (fun (u : tq_S) => u = σ') (tq_E dC dI cI cL cZ (wo cI cL cZ ad) A) A) ([.ref (ad 4)] : List Value).toArray s 0 0 A) (F0 m 22 ls [])) ∧ (∀ {x1 : Int32} {σ : tq_S} {H : Heap} {locs : List Loc} {ls : Array Slot}, va_P (dC, dI) tq_cl (wo cI cL cZ ad σ) H → va_D A (wo cI cL cZ ad σ) → va_S A s.heap H locs → lv_has ls 2 [(0, .ref (ad 4)), (1, .int x1)] → tq_go st_Th_settle n (43, [x1], [], σ) = some (tq_rt, [], [], σ') → W p l e (headSpec w_Th_settle ({ frames := 11, cells := 0, slots := 0, locals := 300 } : Room)).room s m ([.ref (ad 4)] : List Value).toArray below meth c H locs 0 0 (MQ below (va_Qv (fun (u : tq_S) => u = σ') (tq_E dC dI cI cL cZ (wo cI cL cZ ad) A) A) ([.ref (ad 4)] : List Value).toArray s 0 0 A) (F0 m 43 ls [])) ∧ (∀ {x1 : Int32} {σ : tq_S} {H : Heap} {locs : List Loc} {ls : Array Slot}, va_P (dC, dI) tq_cl (wo cI cL cZ ad σ) H → va_D A (wo cI cL cZ ad σ) → va_S A s.heap H locs → lv_has ls 2 [(0, .ref (ad 4)), (1, .int x1)] → tq_go st_Th_settle n (68, [x1], [], σ) = some (tq_rt, [], [], σ') → W p l e (headSpec w_Th_settle ({ frames := 11, cells := 0, slots := 0, locals := 300 } : Room)).room s m ([.ref (ad 4)] : List Value).toArray below meth c H locs 0 0 (MQ below (va_Qv (fun (u : tq_S) => u = σ') (tq_E dC dI cI cL cZ (wo cI cL cZ ad) A) A) ([.ref (ad 4)] : List Value).toArray s 0 0 A) (F0 m 68 ls [])) := by
    intro n
    induction n with
    | zero => exact ⟨(fun _ _ _ _ h => by cases h), (fun _ _ _ _ h => by cases h), (fun _ _ _ _ h => by cases h), (fun _ _ _ _ h => by cases h)⟩
    | succ n ih =>
      refine ⟨?_, ?_, ?_, ?_⟩
      · intro  σ H locs ls hP hD hS hl h9
        obtain ⟨q9, hg, hn⟩ := tq_go_s h9 (show ¬ (0 : Nat) = tq_rt by decide)
        replace hg : bk_Th_settle_0 [] [] σ = some q9 := hg
        unfold bk_Th_settle_0 at hg
        refine lv_aload_n hx hb d_Th_settle_0 rfl (lv_at hl 0 rfl) ?_
        refine va_get (D := (dC, dI)) (ci := 4) (v := .int (σ.2.2 11)) (C := "TableauNodes$Things") (T := F_Th) (N := 15) hx hb hts in_Th hown hK hP 4 rfl rfl 13 (by decide) (hts _ tw_187) (fun _ h9 => h9) rfl d_Th_settle_1 ?_
        refine lv_if_ne (tgt := 22) hx hb d_Th_settle_4 (by decide) (fun c1 => ?_) (fun c1 => ?_)
        · replace hg := tq_if_t c1 hg
          exact ih.2.1 hP hD hS (lv_sub hl [0] rfl) (tq_gi hg hn)
        · replace hg := tq_if_n c1 hg
          refine lv_aload_n hx hb d_Th_settle_7 rfl (lv_at hl 0 rfl) ?_
          refine va_get (D := (dC, dI)) (ci := 4) (v := .int (σ.2.2 12)) (C := "TableauNodes$Things") (T := F_Th) (N := 15) hx hb hts in_Th hown hK hP 4 rfl rfl 14 (by decide) (hts _ tw_188) (fun _ h9 => h9) rfl d_Th_settle_8 ?_
          refine lv_aload_n hx hb d_Th_settle_11 rfl (lv_at hl 0 rfl) ?_
          refine va_get (D := (dC, dI)) (ci := 4) (v := .ref (ad 3)) (C := "TableauNodes$Things") (T := F_Th) (N := 15) hx hb hts in_Th hown hK hP 4 rfl rfl 1 (by decide) (hts _ tw_175) (fun _ h9 => h9) rfl d_Th_settle_12 ?_
          obtain ⟨r3, σ4, f2, hg⟩ := tq_ob_s hg
          refine tq_aI (va_runV (As := []) (rest := [.int (σ.2.2 12)]) ⟨hx, hb, hml, hown, hts⟩ (c_Go_version l dC dI cI cL cZ ad tt H.size σ   r3 σ4 f2) (cwV 0 hts (tq_gV tw_474 tw_475 tw_476 tw_4 tw_477) rfl rfl rfl (by decide +kernel) ⟨Nat.le_of_ble_eq_true rfl, Nat.le_of_ble_eq_true rfl⟩) ⟨tq_bl, va_recv hK hP (ci := 3) (q0 := 3) rfl rfl, (tq_pr hP hK hD hS hA hZ hN)⟩ rfl rfl hl.1 rfl (lv_room (Nat.le_of_ble_eq_true rfl)) d_Th_settle_15 ⟨Nat.zero_le _, Nat.zero_le _⟩) hD hS hA (fun H locs hP hD hS => ?_)
          refine lv_icmp_ne (tgt := 22) hx hb d_Th_settle_18 (by decide) (fun c5 => ?_) (fun c5 => ?_)
          · replace hg := tq_if_t c5 hg
            exact ih.2.1 hP hD hS (lv_sub hl [0] rfl) (tq_gi hg hn)
          · replace hg := tq_if_n c5 hg
            exact W.vret hx hb hr (fun t ht hW => ⟨⟨σ4, rfl, tq_grV hg hn, by rw [ht]; exact hP, va_K.moved hW.alike hK, hD⟩, hS.F ht⟩) hS.2.2 d_Th_settle_21
      · intro  σ H locs ls hP hD hS hl h9
        obtain ⟨q9, hg, hn⟩ := tq_go_s h9 (show ¬ (22 : Nat) = tq_rt by decide)
        replace hg : bk_Th_settle_22 [] [] σ = some q9 := hg
        unfold bk_Th_settle_22 at hg
        refine lv_aload_n hx hb d_Th_settle_22 rfl (lv_at hl 0 rfl) ?_
        obtain ⟨⟨⟩, σ8, f6, hg⟩ := tq_ob_s hg
        refine tq_aV (va_runV (As := []) (rest := []) ⟨hx, hb, hml, hown, hts⟩ (c_Th_sortLinks l dC dI cI cL cZ ad tt H.size σ    σ8 f6) (cwV 0 hts (tq_gV tw_478 tw_480 ts_16 tw_5 tw_481) rfl rfl rfl (by decide +kernel) ⟨Nat.le_of_ble_eq_true rfl, Nat.le_of_ble_eq_true rfl⟩) ⟨tq_bl, va_recv hK hP (ci := 4) (q0 := 4) rfl rfl, (tq_pr hP hK hD hS hA hZ hN)⟩ rfl rfl hl.1 rfl (lv_room (Nat.le_of_ble_eq_true rfl)) d_Th_settle_23 ⟨Nat.zero_le _, Nat.zero_le _⟩) hD hS hA (fun H locs hP hD hS => ?_)
        refine lv_aload_n hx hb d_Th_settle_26 rfl (lv_at hl 0 rfl) ?_
        obtain ⟨⟨⟩, σ11, f9, hg⟩ := tq_ob_s hg
        refine tq_aV (va_runV (As := []) (rest := []) ⟨hx, hb, hml, hown, hts⟩ (c_Th_begin l dC dI cI cL cZ ad tt H.size σ8    σ11 f9) (cwV 0 hts (tq_gV tw_487 tw_489 ts_17 tw_5 tw_490) rfl rfl rfl (by decide +kernel) ⟨Nat.le_of_ble_eq_true rfl, Nat.le_of_ble_eq_true rfl⟩) ⟨tq_bl, va_recv hK hP (ci := 4) (q0 := 4) rfl rfl, (tq_pr hP hK hD hS hA hZ hN)⟩ rfl rfl hl.1 rfl (lv_room (Nat.le_of_ble_eq_true rfl)) d_Th_settle_27 ⟨Nat.zero_le _, Nat.zero_le _⟩) hD hS hA (fun H locs hP hD hS => ?_)
        refine lv_aload_n hx hb d_Th_settle_30 rfl (lv_at hl 0 rfl) ?_
        refine lv_aload_n hx hb d_Th_settle_31 rfl (lv_at hl 0 rfl) ?_
        refine lv_iconst (v := 0) hx hb d_Th_settle_32 (by decide) ?_
        refine lv_bipush (v := 31) hx hb d_Th_settle_33 (by decide) ?_
        obtain ⟨r13, σ14, f12, hg⟩ := tq_ob_s hg
        refine tq_aI (va_runV (As := [.int 0, .int 31]) (rest := [.ref (ad 4)]) ⟨hx, hb, hml, hown, hts⟩ (c_Th_canExtend l dC dI cI cL cZ ad tt 6 H.size σ11 0 31  r13 σ14 f12) (cwV 2 hts (tq_gV tw_508 tw_510 ts_19 tw_5 tw_511) rfl rfl rfl (by decide +kernel) ⟨Nat.le_of_ble_eq_true rfl, Nat.le_of_ble_eq_true rfl⟩) ⟨tq_bl, va_recv hK hP (ci := 4) (q0 := 4) rfl rfl, (tq_pr hP hK hD hS hA hZ hN)⟩ rfl rfl hl.1 rfl (lv_room (Nat.le_of_ble_eq_true rfl)) d_Th_settle_35 ⟨Nat.zero_le _, Nat.zero_le _⟩) hD hS hA (fun H locs hP hD hS => ?_)
        obtain ⟨b16, hg⟩ := tq_gb_s hg
        refine va_put (D := (dC, dI)) (ci := 4) (v := .int r13) (ty := .boolean) (C := "TableauNodes$Things") (T := F_Th) (N := 15) hx hb hts in_Th ty_Th tk_Th nm_Th hown hK hP hD hS 4 rfl rfl 12 (by decide) (hts _ tw_186) (fun _ h9 => h9) rfl (by decide +kernel) (tq_nb b16) (tq_fb b16) (Nat.le_of_ble_eq_true rfl) d_Th_settle_38 (fun H locs hP hD hS => ?_)
        obtain ⟨σ15, eσ15, hg⟩ := tq_lj_s hg
        replace hP : va_P (dC, dI) tq_cl (wo cI cL cZ ad σ15) H := by rw [eσ15, ← ws_f10]; exact hP
        replace hD : va_D A (wo cI cL cZ ad σ15) := by rw [eσ15, ← ws_f10]; exact hD
        refine lv_iconst (v := 0) hx hb d_Th_settle_41 (by decide) ?_
        refine lv_istore_n (lv' := [(1, .int 0), (0, .ref (ad 4))]) hx hb d_Th_settle_42 rfl hl (by decide) rfl (fun ls hl => ?_)
        exact ih.2.2.1 hP hD hS (lv_sub hl [1, 0] rfl) (tq_gi hg hn)
      · intro x1 σ H locs ls hP hD hS hl h9
        obtain ⟨q9, hg, hn⟩ := tq_go_s h9 (show ¬ (43 : Nat) = tq_rt by decide)
        replace hg : bk_Th_settle_43 [x1] [] σ = some q9 := hg
        unfold bk_Th_settle_43 at hg
        refine lv_iload_n hx hb d_Th_settle_43 rfl (lv_at hl 1 rfl) ?_
        refine lv_iconst (v := 5) hx hb d_Th_settle_44 (by decide) ?_
        refine lv_icmp_ge (tgt := 97) hx hb d_Th_settle_45 (by decide) (fun c17 => ?_) (fun c17 => ?_)
        · replace hg := tq_if_t c17 hg
          refine lv_aload_n hx hb d_Th_settle_97 rfl (lv_at hl 0 rfl) ?_
          refine lv_iconst (v := 0) hx hb d_Th_settle_98 (by decide) ?_
          refine va_put (D := (dC, dI)) (ci := 4) (v := .int 0) (ty := .boolean) (C := "TableauNodes$Things") (T := F_Th) (N := 15) hx hb hts in_Th ty_Th tk_Th nm_Th hown hK hP hD hS 4 rfl rfl 13 (by decide) (hts _ tw_187) (fun _ h9 => h9) rfl (by decide +kernel) rfl rfl (Nat.le_of_ble_eq_true rfl) d_Th_settle_99 (fun H locs hP hD hS => ?_)
          obtain ⟨σ18, eσ18, hg⟩ := tq_lj_s hg
          replace hP : va_P (dC, dI) tq_cl (wo cI cL cZ ad σ18) H := by rw [eσ18, ← ws_f11]; exact hP
          replace hD : va_D A (wo cI cL cZ ad σ18) := by rw [eσ18, ← ws_f11]; exact hD
          refine lv_aload_n hx hb d_Th_settle_102 rfl (lv_at hl 0 rfl) ?_
          refine lv_aload_n hx hb d_Th_settle_103 rfl (lv_at hl 0 rfl) ?_
          refine va_get (D := (dC, dI)) (ci := 4) (v := .ref (ad 3)) (C := "TableauNodes$Things") (T := F_Th) (N := 15) hx hb hts in_Th hown hK hP 4 rfl rfl 1 (by decide) (hts _ tw_175) (fun _ h9 => h9) rfl d_Th_settle_104 ?_
          obtain ⟨r20, σ21, f19, hg⟩ := tq_ob_s hg
          refine tq_aI (va_runV (As := []) (rest := [.ref (ad 4)]) ⟨hx, hb, hml, hown, hts⟩ (c_Go_version l dC dI cI cL cZ ad tt H.size σ18   r20 σ21 f19) (cwV 0 hts (tq_gV tw_474 tw_475 tw_476 tw_4 tw_477) rfl rfl rfl (by decide +kernel) ⟨Nat.le_of_ble_eq_true rfl, Nat.le_of_ble_eq_true rfl⟩) ⟨tq_bl, va_recv hK hP (ci := 3) (q0 := 3) rfl rfl, (tq_pr hP hK hD hS hA hZ hN)⟩ rfl rfl hl.1 rfl (lv_room (Nat.le_of_ble_eq_true rfl)) d_Th_settle_107 ⟨Nat.zero_le _, Nat.zero_le _⟩) hD hS hA (fun H locs hP hD hS => ?_)
          refine va_put (D := (dC, dI)) (ci := 4) (v := .int r20) (ty := .int) (C := "TableauNodes$Things") (T := F_Th) (N := 15) hx hb hts in_Th ty_Th tk_Th nm_Th hown hK hP hD hS 4 rfl rfl 14 (by decide) (hts _ tw_188) (fun _ h9 => h9) rfl (by decide +kernel) rfl rfl (Nat.le_of_ble_eq_true rfl) d_Th_settle_110 (fun H locs hP hD hS => ?_)
          obtain ⟨σ22, eσ22, hg⟩ := tq_lj_s hg
          replace hP : va_P (dC, dI) tq_cl (wo cI cL cZ ad σ22) H := by rw [eσ22, ← ws_f12]; exact hP
          replace hD : va_D A (wo cI cL cZ ad σ22) := by rw [eσ22, ← ws_f12]; exact hD
          exact W.vret hx hb hr (fun t ht hW => ⟨⟨σ22, rfl, tq_grV hg hn, by rw [ht]; exact hP, va_K.moved hW.alike hK, hD⟩, hS.F ht⟩) hS.2.2 d_Th_settle_113
        · replace hg := tq_if_f c17 hg
          refine lv_aload_n hx hb d_Th_settle_48 rfl (lv_at hl 0 rfl) ?_
          refine va_get (D := (dC, dI)) (ci := 4) (v := .int (σ.2.2 10)) (C := "TableauNodes$Things") (T := F_Th) (N := 15) hx hb hts in_Th hown hK hP 4 rfl rfl 12 (by decide) (hts _ tw_186) (fun _ h9 => h9) rfl d_Th_settle_49 ?_
          refine lv_if_eq (tgt := 68) hx hb d_Th_settle_52 (by decide) (fun c23 => ?_) (fun c23 => ?_)
          · replace hg := tq_if_t c23 hg
            exact ih.2.2.2 hP hD hS (lv_sub hl [0, 1] rfl) (tq_gi hg hn)
          · replace hg := tq_if_f c23 hg
            refine lv_aload_n hx hb d_Th_settle_55 rfl (lv_at hl 0 rfl) ?_
            refine lv_iload_n hx hb d_Th_settle_56 rfl (lv_at hl 1 rfl) ?_
            obtain ⟨r25, σ26, f24, hg⟩ := tq_ob_s hg
            refine tq_aI (va_runV (As := [.int x1]) (rest := []) ⟨hx, hb, hml, hown, hts⟩ (c_Th_leaveFirst l dC dI cI cL cZ ad tt H.size σ x1  r25 σ26 f24) (cwV 1 hts (tq_gV tw_540 tw_542 ts_26 tw_5 tw_543) rfl rfl rfl (by decide +kernel) ⟨Nat.le_of_ble_eq_true rfl, Nat.le_of_ble_eq_true rfl⟩) ⟨tq_bl, va_recv hK hP (ci := 4) (q0 := 4) rfl rfl, (tq_pr hP hK hD hS hA hZ hN)⟩ rfl rfl hl.1 rfl (lv_room (Nat.le_of_ble_eq_true rfl)) d_Th_settle_57 ⟨Nat.zero_le _, Nat.zero_le _⟩) hD hS hA (fun H locs hP hD hS => ?_)
            refine lv_if_ne (tgt := 68) hx hb d_Th_settle_60 (by decide) (fun c27 => ?_) (fun c27 => ?_)
            · replace hg := tq_if_t c27 hg
              exact ih.2.2.2 hP hD hS (lv_sub hl [0, 1] rfl) (tq_gi hg hn)
            · replace hg := tq_if_n c27 hg
              refine lv_aload_n hx hb d_Th_settle_63 rfl (lv_at hl 0 rfl) ?_
              refine lv_iload_n hx hb d_Th_settle_64 rfl (lv_at hl 1 rfl) ?_
              obtain ⟨⟨⟩, σ30, f28, hg⟩ := tq_ob_s hg
              refine tq_aV (va_runV (As := [.int x1]) (rest := []) ⟨hx, hb, hml, hown, hts⟩ (c_Th_leaveLeast l dC dI cI cL cZ ad tt H.size σ26 x1   σ30 f28) (cwV 1 hts (tq_gV tw_559 tw_561 ts_30 tw_5 tw_562) rfl rfl rfl (by decide +kernel) ⟨Nat.le_of_ble_eq_true rfl, Nat.le_of_ble_eq_true rfl⟩) ⟨tq_bl, va_recv hK hP (ci := 4) (q0 := 4) rfl rfl, (tq_pr hP hK hD hS hA hZ hN)⟩ rfl rfl hl.1 rfl (lv_room (Nat.le_of_ble_eq_true rfl)) d_Th_settle_65 ⟨Nat.zero_le _, Nat.zero_le _⟩) hD hS hA (fun H locs hP hD hS => ?_)
              exact ih.2.2.2 hP hD hS (lv_sub hl [0, 1] rfl) (tq_gi hg hn)
      · intro x1 σ H locs ls hP hD hS hl h9
        obtain ⟨q9, hg, hn⟩ := tq_go_s h9 (show ¬ (68 : Nat) = tq_rt by decide)
        replace hg : bk_Th_settle_68 [x1] [] σ = some q9 := hg
        unfold bk_Th_settle_68 at hg
        refine lv_aload_n hx hb d_Th_settle_68 rfl (lv_at hl 0 rfl) ?_
        refine va_get (D := (dC, dI)) (ci := 4) (v := .ref (ad 29)) (C := "TableauNodes$Things") (T := F_Th) (N := 15) hx hb hts in_Th hown hK hP 4 rfl rfl 11 (by decide) (hts _ tw_185) (fun _ h9 => h9) rfl d_Th_settle_69 ?_
        refine lv_iload_n hx hb d_Th_settle_72 rfl (lv_at hl 1 rfl) ?_
        refine lv_aload_n hx hb d_Th_settle_73 rfl (lv_at hl 0 rfl) ?_
        refine va_get (D := (dC, dI)) (ci := 4) (v := .int (σ.2.2 10)) (C := "TableauNodes$Things") (T := F_Th) (N := 15) hx hb hts in_Th hown hK hP 4 rfl rfl 12 (by decide) (hts _ tw_186) (fun _ h9 => h9) rfl d_Th_settle_74 ?_
        refine lv_if_eq (tgt := 88) hx hb d_Th_settle_77 (by decide) (fun c31 => ?_) (fun c31 => ?_)
        · replace hg := tq_if_t c31 hg
          refine lv_bipush (v := (-2)) hx hb d_Th_settle_88 (by decide) ?_
          obtain ⟨g32, hg⟩ := tq_gd_s hg
          refine va_iast hx hb hK hP hD hS 29 0 rfl rfl g32 d_Th_settle_90 (fun H locs hP hD hS => ?_)
          obtain ⟨σ33, eσ33, hg⟩ := tq_lj_s hg
          replace hP : va_P (dC, dI) tq_cl (wo cI cL cZ ad σ33) H := by rw [eσ33, ← ws_i16]; exact hP
          replace hD : va_D A (wo cI cL cZ ad σ33) := by rw [eσ33, ← ws_i16]; exact hD
          obtain ⟨v34, ev34, hg⟩ := tq_lj_s hg
          refine lv_iinc (v := v34) (lv' := [(1, .int v34), (0, .ref (ad 4))]) hx hb d_Th_settle_91 hl (k := 1) rfl (by rw [ev34]; rfl) (by decide) rfl (fun ls hl => ?_)
          refine lv_goto (tgt := 43) hx hb d_Th_settle_94 (by decide) ?_
          exact ih.2.2.1 hP hD hS (lv_sub hl [1, 0] rfl) (tq_gi hg hn)
        · replace hg := tq_if_f c31 hg
          refine lv_aload_n hx hb d_Th_settle_80 rfl (lv_at hl 0 rfl) ?_
          refine lv_iload_n hx hb d_Th_settle_81 rfl (lv_at hl 1 rfl) ?_
          obtain ⟨r36, σ37, f35, hg⟩ := tq_ob_s hg
          refine tq_aI (va_runV (As := [.int x1]) (rest := [.int x1, .ref (ad 29)]) ⟨hx, hb, hml, hown, hts⟩ (c_Th_firstLeft l dC dI cI cL cZ ad tt H.size σ x1  r36 σ37 f35) (cwV 1 hts (tq_gV tw_544 tw_546 ts_27 tw_5 tw_547) rfl rfl rfl (by decide +kernel) ⟨Nat.le_of_ble_eq_true rfl, Nat.le_of_ble_eq_true rfl⟩) ⟨tq_bl, va_recv hK hP (ci := 4) (q0 := 4) rfl rfl, (tq_pr hP hK hD hS hA hZ hN)⟩ rfl rfl hl.1 rfl (lv_room (Nat.le_of_ble_eq_true rfl)) d_Th_settle_82 ⟨Nat.zero_le _, Nat.zero_le _⟩) hD hS hA (fun H locs hP hD hS => ?_)
          refine lv_goto (tgt := 90) hx hb d_Th_settle_85 (by decide) ?_
          obtain ⟨g38, hg⟩ := tq_gd_s hg
          refine va_iast hx hb hK hP hD hS 29 0 rfl rfl g38 d_Th_settle_90 (fun H locs hP hD hS => ?_)
          obtain ⟨σ39, eσ39, hg⟩ := tq_lj_s hg
          replace hP : va_P (dC, dI) tq_cl (wo cI cL cZ ad σ39) H := by rw [eσ39, ← ws_i16]; exact hP
          replace hD : va_D A (wo cI cL cZ ad σ39) := by rw [eσ39, ← ws_i16]; exact hD
          obtain ⟨v40, ev40, hg⟩ := tq_lj_s hg
          refine lv_iinc (v := v40) (lv' := [(1, .int v40), (0, .ref (ad 4))]) hx hb d_Th_settle_91 hl (k := 1) rfl (by rw [ev40]; rfl) (by decide) rfl (fun ls hl => ?_)
          refine lv_goto (tgt := 43) hx hb d_Th_settle_94 (by decide) ?_
          exact ih.2.2.1 hP hD hS (lv_sub hl [1, 0] rfl) (tq_gi hg hn)
  exact (key n0).1 hP hD hS hl h0
noncomputable def bk_Th_goTogether_0 : List Int32 → List Int64 → tq_S → Option tq_C
  | [], [], σ => tq_gb (σ.2.2 10) (some (tq_rt, [(σ.2.2 10)], [], σ))
  | _, _, _ => none
noncomputable def st_Th_goTogether (c : tq_C) : Option tq_C := if c.1 = 0 then bk_Th_goTogether_0 c.2.1 c.2.2.1 c.2.2.2 else none
set_option maxHeartbeats 40000000 in
set_option maxRecDepth 100000 in
theorem c_Th_goTogether (l : Launch) (dC : Nat → ClassId) (dI : Nat → Nat → Nat) (cI cL cZ : ClassId) (ad : Nat → Nat) (tt : Nat) (sz : Nat) (σ : tq_S) (r : Int32) (σ' : tq_S) (hf : tq_fI st_Th_goTogether (0, [], [], σ) = some (r, σ')) : Met l y_Th_goTogether w_Th_goTogether ({ frames := 0, cells := 0, slots := 0, locals := 0 } : Room) (va_Pc [.ref (ad 4)] (tq_B dC dI cI cL cZ tt (wo cI cL cZ ad σ) sz)) (va_Qi (fun (r' : Int32) (u : tq_S) => r' = r ∧ u = σ') (tq_E dC dI cI cL cZ (wo cI cL cZ ad) (va_A (wo cI cL cZ ad σ) sz)) (va_A (wo cI cL cZ ad σ) sz)) 0 0 (va_A (wo cI cL cZ ad σ) sz) := by
  obtain ⟨n0, h0⟩ := tq_fI_to hf
  refine Met.ofW (cc := prog_5_method_6_code) (maxL := 1) (ret := (some .boolean)) (by decide) rfl ?_
  intro p e s m args below meth c s₁ B hml hv
  obtain ⟨rfl, hsz, hP, hK, hD0, hZ, hN⟩ := hv
  have hx := B.exec
  have hb := B.bytes
  have hr := B.returns
  have hts : ∀ w ∈ tq_T, w.before _ s = true := fun w h => atoms_spec (ws := w_Th_goTogether) B.pre w (List.mem_cons_of_mem _ h)
  have hown : s.vm.findClass "TableauNodes$Things" = some m.cls := findClass_of_methodNamed B.named
  have hlocks := B.notSynchronized
  subst hsz
  have hD := hD0.self (sz := s.heap.size)
  have hS : va_S (va_A (wo cI cL cZ ad σ) s.heap.size) s.heap s.heap [] := va_S.rf
  have hA : ∀ q : Nat, s.heap.size ≤ q → va_A (wo cI cL cZ ad σ) s.heap.size q := fun q h => Or.inr h
  generalize va_A (wo cI cL cZ ad σ) s.heap.size = A at hD hS hA hZ ⊢
  have hl := lv_entry ([.ref (ad 4)]) (n := 1) (Nat.le_of_ble_eq_true rfl)
  rw [lg_entry_eq]
  generalize (lg_sl ([.ref (ad 4)]) ++ List.replicate (1 - (lg_sl ([.ref (ad 4)])).length) Slot.unset).toArray = ls at hl ⊢
  have hl : lv_has ls 1 [(0, .ref (ad 4))] := hl
  have key : ∀ n : Nat, (∀ {σ : tq_S} {H : Heap} {locs : List Loc} {ls : Array Slot}, va_P (dC, dI) tq_cl (wo cI cL cZ ad σ) H → va_D A (wo cI cL cZ ad σ) → va_S A s.heap H locs → lv_has ls 1 [(0, .ref (ad 4))] → tq_go st_Th_goTogether n (0, [], [], σ) = some (tq_rt, [r], [], σ') → W p l e (headSpec w_Th_goTogether ({ frames := 0, cells := 0, slots := 0, locals := 0 } : Room)).room s m ([.ref (ad 4)] : List Value).toArray below meth c H locs 0 0 (MQ below (va_Qi (fun (r' : Int32) (u : tq_S) => r' = r ∧ u = σ') (tq_E dC dI cI cL cZ (wo cI cL cZ ad) A) A) ([.ref (ad 4)] : List Value).toArray s 0 0 A) (F0 m 0 ls [])) := by
    intro n
    induction n with
    | zero => exact fun _ _ _ _ h => by cases h
    | succ n ih =>
      intro  σ H locs ls hP hD hS hl h9
      obtain ⟨q9, hg, hn⟩ := tq_go_s h9 (show ¬ (0 : Nat) = tq_rt by decide)
      replace hg : bk_Th_goTogether_0 [] [] σ = some q9 := hg
      unfold bk_Th_goTogether_0 at hg
      refine lv_aload_n hx hb d_Th_goTogether_0 rfl (lv_at hl 0 rfl) ?_
      refine va_get (D := (dC, dI)) (ci := 4) (v := .int (σ.2.2 10)) (C := "TableauNodes$Things") (T := F_Th) (N := 15) hx hb hts in_Th hown hK hP 4 rfl rfl 12 (by decide) (hts _ tw_186) (fun _ h9 => h9) rfl d_Th_goTogether_1 ?_
      obtain ⟨b1, hg⟩ := tq_gb_s hg
      exact W.zret (v := (σ.2.2 10)) hx hb hr (tq_nb b1) (fun t ht hW => ⟨⟨(σ.2.2 10), σ, rfl, tq_grI hg hn, by rw [ht]; exact hP, va_K.moved hW.alike hK, hD⟩, hS.F ht⟩) hS.2.2 d_Th_goTogether_4
  exact (key n0) hP hD hS hl h0
noncomputable def bk_Th_typeOf_0 : List Int32 → List Int64 → tq_S → Option tq_C
  | [x1], [], σ => tq_ob (tq_fI st_Tn_isBelow (0, [x1, 5], [], σ)) (fun r2 σ3 => if r2 = 0 then some (tq_rt, [(-1)], [], σ3) else tq_gd x1 5 (some (tq_rt, [(ia σ3 16 x1)], [], σ3)))
  | _, _, _ => none
noncomputable def st_Th_typeOf (c : tq_C) : Option tq_C := if c.1 = 0 then bk_Th_typeOf_0 c.2.1 c.2.2.1 c.2.2.2 else none
set_option maxHeartbeats 40000000 in
set_option maxRecDepth 100000 in
theorem c_Th_typeOf (l : Launch) (dC : Nat → ClassId) (dI : Nat → Nat → Nat) (cI cL cZ : ClassId) (ad : Nat → Nat) (tt : Nat) (sz : Nat) (σ : tq_S) (a1 : Int32) (r : Int32) (σ' : tq_S) (hf : tq_fI st_Th_typeOf (0, [a1], [], σ) = some (r, σ')) : Met l y_Th_typeOf w_Th_typeOf ({ frames := 1, cells := 0, slots := 0, locals := 21 } : Room) (va_Pc [.ref (ad 4), .int a1] (tq_B dC dI cI cL cZ tt (wo cI cL cZ ad σ) sz)) (va_Qi (fun (r' : Int32) (u : tq_S) => r' = r ∧ u = σ') (tq_E dC dI cI cL cZ (wo cI cL cZ ad) (va_A (wo cI cL cZ ad σ) sz)) (va_A (wo cI cL cZ ad σ) sz)) 0 0 (va_A (wo cI cL cZ ad σ) sz) := by
  obtain ⟨n0, h0⟩ := tq_fI_to hf
  refine Met.ofW (cc := prog_5_method_7_code) (maxL := 2) (ret := (some .int)) (by decide) rfl ?_
  intro p e s m args below meth c s₁ B hml hv
  obtain ⟨rfl, hsz, hP, hK, hD0, hZ, hN⟩ := hv
  have hx := B.exec
  have hb := B.bytes
  have hr := B.returns
  have hts : ∀ w ∈ tq_T, w.before _ s = true := fun w h => atoms_spec (ws := w_Th_typeOf) B.pre w (List.mem_cons_of_mem _ h)
  have hown : s.vm.findClass "TableauNodes$Things" = some m.cls := findClass_of_methodNamed B.named
  have hlocks := B.notSynchronized
  subst hsz
  have hD := hD0.self (sz := s.heap.size)
  have hS : va_S (va_A (wo cI cL cZ ad σ) s.heap.size) s.heap s.heap [] := va_S.rf
  have hA : ∀ q : Nat, s.heap.size ≤ q → va_A (wo cI cL cZ ad σ) s.heap.size q := fun q h => Or.inr h
  generalize va_A (wo cI cL cZ ad σ) s.heap.size = A at hD hS hA hZ ⊢
  have hl := lv_entry ([.ref (ad 4), .int a1]) (n := 2) (Nat.le_of_ble_eq_true rfl)
  rw [lg_entry_eq]
  generalize (lg_sl ([.ref (ad 4), .int a1]) ++ List.replicate (2 - (lg_sl ([.ref (ad 4), .int a1])).length) Slot.unset).toArray = ls at hl ⊢
  have hl : lv_has ls 2 [(0, .ref (ad 4)), (1, .int a1)] := hl
  have key : ∀ n : Nat, (∀ {x1 : Int32} {σ : tq_S} {H : Heap} {locs : List Loc} {ls : Array Slot}, va_P (dC, dI) tq_cl (wo cI cL cZ ad σ) H → va_D A (wo cI cL cZ ad σ) → va_S A s.heap H locs → lv_has ls 2 [(0, .ref (ad 4)), (1, .int x1)] → tq_go st_Th_typeOf n (0, [x1], [], σ) = some (tq_rt, [r], [], σ') → W p l e (headSpec w_Th_typeOf ({ frames := 1, cells := 0, slots := 0, locals := 21 } : Room)).room s m ([.ref (ad 4), .int a1] : List Value).toArray below meth c H locs 0 0 (MQ below (va_Qi (fun (r' : Int32) (u : tq_S) => r' = r ∧ u = σ') (tq_E dC dI cI cL cZ (wo cI cL cZ ad) A) A) ([.ref (ad 4), .int a1] : List Value).toArray s 0 0 A) (F0 m 0 ls [])) := by
    intro n
    induction n with
    | zero => exact fun _ _ _ _ h => by cases h
    | succ n ih =>
      intro x1 σ H locs ls hP hD hS hl h9
      obtain ⟨q9, hg, hn⟩ := tq_go_s h9 (show ¬ (0 : Nat) = tq_rt by decide)
      replace hg : bk_Th_typeOf_0 [x1] [] σ = some q9 := hg
      unfold bk_Th_typeOf_0 at hg
      refine lv_iload_n hx hb d_Th_typeOf_0 rfl (lv_at hl 1 rfl) ?_
      refine lv_iconst (v := 5) hx hb d_Th_typeOf_1 (by decide) ?_
      obtain ⟨r2, σ3, f1, hg⟩ := tq_ob_s hg
      refine tq_aI (va_runSN (As := [.int x1, .int 5]) (rest := []) ⟨hx, hb, hml, hown, hts⟩ (c_Tn_isBelow l dC dI cI cL cZ ad tt H.size σ x1 5  r2 σ3 f1) ⟨va_cnB 2 hts (tq_gC tw_239) rfl rfl rfl (hN _ (List.mem_of_getElem? (i := 7) rfl)) (hts _ tw_1) (by decide +kernel) ⟨Nat.le_of_ble_eq_true rfl, Nat.le_of_ble_eq_true rfl⟩, hts _ tw_238, trivial⟩ ⟨tq_bl, (tq_pr hP hK hD hS hA hZ hN)⟩ rfl rfl hl.1 rfl (lv_room (Nat.le_of_ble_eq_true rfl)) d_Th_typeOf_2 ⟨Nat.zero_le _, Nat.zero_le _⟩) hD hS hA (fun H locs hP hD hS => ?_)
      refine lv_if_eq (tgt := 17) hx hb d_Th_typeOf_5 (by decide) (fun c4 => ?_) (fun c4 => ?_)
      · replace hg := tq_if_t c4 hg
        refine lv_iconst (v := (-1)) hx hb d_Th_typeOf_17 (by decide) ?_
        exact W.iret (v := (-1)) hx hb hr (fun t ht hW => ⟨⟨(-1), σ3, rfl, tq_grI hg hn, by rw [ht]; exact hP, va_K.moved hW.alike hK, hD⟩, hS.F ht⟩) hS.2.2 d_Th_typeOf_18
      · replace hg := tq_if_f c4 hg
        refine lv_aload_n hx hb d_Th_typeOf_8 rfl (lv_at hl 0 rfl) ?_
        refine va_get (D := (dC, dI)) (ci := 4) (v := .ref (ad 29)) (C := "TableauNodes$Things") (T := F_Th) (N := 15) hx hb hts in_Th hown hK hP 4 rfl rfl 11 (by decide) (hts _ tw_185) (fun _ h9 => h9) rfl d_Th_typeOf_9 ?_
        refine lv_iload_n hx hb d_Th_typeOf_12 rfl (lv_at hl 1 rfl) ?_
        obtain ⟨g5, hg⟩ := tq_gd_s hg
        refine va_iald hx hb hK hP 29 0 rfl rfl g5 d_Th_typeOf_13 ?_
        refine lv_goto (tgt := 18) hx hb d_Th_typeOf_14 (by decide) ?_
        exact W.iret (v := (ia σ3 16 x1)) hx hb hr (fun t ht hW => ⟨⟨(ia σ3 16 x1), σ3, rfl, tq_grI hg hn, by rw [ht]; exact hP, va_K.moved hW.alike hK, hD⟩, hS.F ht⟩) hS.2.2 d_Th_typeOf_18
  exact (key n0) hP hD hS hl h0
noncomputable def bk_Th_canLack_0 : List Int32 → List Int64 → tq_S → Option tq_C
  | [x1, x2], [], σ => if (σ.2.2 10) = 0 then some (tq_rt, [0], [], σ) else tq_ob (tq_fI st_Tn_isBelow (0, [x1, 5], [], σ)) (fun r3 σ4 => if ¬ r3 = 0 then tq_gd x1 5 (tq_ob (tq_fI st_Co_holds (0, [x2, (ia σ4 16 x1)], [], σ4)) (fun r8 σ9 => if ¬ r8 = 0 then tq_ob (tq_fV st_Th_begin (0, [], [], σ9)) (fun _ σ13 => some (42, [x1, x2, 0], [], σ13)) else some (tq_rt, [1], [], σ9))) else some (tq_rt, [0], [], σ4))
  | _, _, _ => none
noncomputable def bk_Th_canLack_42 : List Int32 → List Int64 → tq_S → Option tq_C
  | [x1, x2, x3], [], σ => if (σ.2.2 9) ≤ x3 then tq_ob (fx_canExtend 6 (0, [0, 31], [], σ)) (fun r16 σ17 => tq_gb r16 (some (tq_rt, [r16], [], σ17))) else tq_gd ((x1 * 16) + x3) 400 (tq_ob (tq_fL st_Co_word (0, [x2, x3], [], σ)) (fun r21 σ22 => tq_gd ((x1 * 16) + x3) 400 (tq_lj (lput σ22 5 ((x1 * 16) + x3).toNatClampNeg ((la σ 5 ((x1 * 16) + x3)) &&& (r21 ^^^ (-1)))) (fun σ24 => tq_lj (x3 + 1) (fun v25 => some (42, [x1, x2, v25], [], σ24))))))
  | _, _, _ => none
noncomputable def st_Th_canLack (c : tq_C) : Option tq_C := if c.1 = 0 then bk_Th_canLack_0 c.2.1 c.2.2.1 c.2.2.2 else if c.1 = 42 then bk_Th_canLack_42 c.2.1 c.2.2.1 c.2.2.2 else none
set_option maxHeartbeats 40000000 in
set_option maxRecDepth 100000 in
theorem c_Th_canLack (l : Launch) (dC : Nat → ClassId) (dI : Nat → Nat → Nat) (cI cL cZ : ClassId) (ad : Nat → Nat) (tt : Nat) (sz : Nat) (σ : tq_S) (a1 : Int32) (a2 : Int32) (r : Int32) (σ' : tq_S) (hf : tq_fI st_Th_canLack (0, [a1, a2], [], σ) = some (r, σ')) : Met l y_Th_canLack w_Th_canLack ({ frames := 10, cells := 0, slots := 0, locals := 275 } : Room) (va_Pc [.ref (ad 4), .int a1, .int a2] (tq_B dC dI cI cL cZ tt (wo cI cL cZ ad σ) sz)) (va_Qi (fun (r' : Int32) (u : tq_S) => r' = r ∧ u = σ') (tq_E dC dI cI cL cZ (wo cI cL cZ ad) (va_A (wo cI cL cZ ad σ) sz)) (va_A (wo cI cL cZ ad σ) sz)) 0 0 (va_A (wo cI cL cZ ad σ) sz) := by
  obtain ⟨n0, h0⟩ := tq_fI_to hf
  refine Met.ofW (cc := prog_5_method_8_code) (maxL := 4) (ret := (some .boolean)) (by decide) rfl ?_
  intro p e s m args below meth c s₁ B hml hv
  obtain ⟨rfl, hsz, hP, hK, hD0, hZ, hN⟩ := hv
  have hx := B.exec
  have hb := B.bytes
  have hr := B.returns
  have hts : ∀ w ∈ tq_T, w.before _ s = true := fun w h => atoms_spec (ws := w_Th_canLack) B.pre w (List.mem_cons_of_mem _ h)
  have hown : s.vm.findClass "TableauNodes$Things" = some m.cls := findClass_of_methodNamed B.named
  have hlocks := B.notSynchronized
  subst hsz
  have hD := hD0.self (sz := s.heap.size)
  have hS : va_S (va_A (wo cI cL cZ ad σ) s.heap.size) s.heap s.heap [] := va_S.rf
  have hA : ∀ q : Nat, s.heap.size ≤ q → va_A (wo cI cL cZ ad σ) s.heap.size q := fun q h => Or.inr h
  generalize va_A (wo cI cL cZ ad σ) s.heap.size = A at hD hS hA hZ ⊢
  have hl := lv_entry ([.ref (ad 4), .int a1, .int a2]) (n := 4) (Nat.le_of_ble_eq_true rfl)
  rw [lg_entry_eq]
  generalize (lg_sl ([.ref (ad 4), .int a1, .int a2]) ++ List.replicate (4 - (lg_sl ([.ref (ad 4), .int a1, .int a2])).length) Slot.unset).toArray = ls at hl ⊢
  have hl : lv_has ls 4 [(0, .ref (ad 4)), (1, .int a1), (2, .int a2)] := hl
  have key : ∀ n : Nat, (∀ {x1 x2 : Int32} {σ : tq_S} {H : Heap} {locs : List Loc} {ls : Array Slot}, va_P (dC, dI) tq_cl (wo cI cL cZ ad σ) H → va_D A (wo cI cL cZ ad σ) → va_S A s.heap H locs → lv_has ls 4 [(0, .ref (ad 4)), (1, .int x1), (2, .int x2)] → tq_go st_Th_canLack n (0, [x1, x2], [], σ) = some (tq_rt, [r], [], σ') → W p l e (headSpec w_Th_canLack ({ frames := 10, cells := 0, slots := 0, locals := 275 } : Room)).room s m ([.ref (ad 4), .int a1, .int a2] : List Value).toArray below meth c H locs 0 0 (MQ below (va_Qi (fun (r' : Int32) (u : tq_S) => r' = r ∧ u = σ') (tq_E dC dI cI cL cZ (wo cI cL cZ ad) A) A) ([.ref (ad 4), .int a1, .int a2] : List Value).toArray s 0 0 A) (F0 m 0 ls [])) ∧ (∀ {x1 x2 x3 : Int32} {σ : tq_S} {H : Heap} {locs : List Loc} {ls : Array Slot}, va_P (dC, dI) tq_cl (wo cI cL cZ ad σ) H → va_D A (wo cI cL cZ ad σ) → va_S A s.heap H locs → lv_has ls 4 [(0, .ref (ad 4)), (1, .int x1), (2, .int x2), (3, .int x3)] → tq_go st_Th_canLack n (42, [x1, x2, x3], [], σ) = some (tq_rt, [r], [], σ') → W p l e (headSpec w_Th_canLack ({ frames := 10, cells := 0, slots := 0, locals := 275 } : Room)).room s m ([.ref (ad 4), .int a1, .int a2] : List Value).toArray below meth c H locs 0 0 (MQ below (va_Qi (fun (r' : Int32) (u : tq_S) => r' = r ∧ u = σ') (tq_E dC dI cI cL cZ (wo cI cL cZ ad) A) A) ([.ref (ad 4), .int a1, .int a2] : List Value).toArray s 0 0 A) (F0 m 42 ls [])) := by
    intro n
    induction n with
    | zero => exact ⟨(fun _ _ _ _ h => by cases h), (fun _ _ _ _ h => by cases h)⟩
    | succ n ih =>
      refine ⟨?_, ?_⟩
      · intro x1 x2 σ H locs ls hP hD hS hl h9
        obtain ⟨q9, hg, hn⟩ := tq_go_s h9 (show ¬ (0 : Nat) = tq_rt by decide)
        replace hg : bk_Th_canLack_0 [x1, x2] [] σ = some q9 := hg
        unfold bk_Th_canLack_0 at hg
        refine lv_aload_n hx hb d_Th_canLack_0 rfl (lv_at hl 0 rfl) ?_
        refine va_get (D := (dC, dI)) (ci := 4) (v := .int (σ.2.2 10)) (C := "TableauNodes$Things") (T := F_Th) (N := 15) hx hb hts in_Th hown hK hP 4 rfl rfl 12 (by decide) (hts _ tw_186) (fun _ h9 => h9) rfl d_Th_canLack_1 ?_
        refine lv_if_eq (tgt := 15) hx hb d_Th_canLack_4 (by decide) (fun c1 => ?_) (fun c1 => ?_)
        · replace hg := tq_if_t c1 hg
          refine lv_iconst (v := 0) hx hb d_Th_canLack_15 (by decide) ?_
          exact W.zret (v := 0) hx hb hr rfl (fun t ht hW => ⟨⟨0, σ, rfl, tq_grI hg hn, by rw [ht]; exact hP, va_K.moved hW.alike hK, hD⟩, hS.F ht⟩) hS.2.2 d_Th_canLack_16
        · replace hg := tq_if_f c1 hg
          refine lv_iload_n hx hb d_Th_canLack_7 rfl (lv_at hl 1 rfl) ?_
          refine lv_iconst (v := 5) hx hb d_Th_canLack_8 (by decide) ?_
          obtain ⟨r3, σ4, f2, hg⟩ := tq_ob_s hg
          refine tq_aI (va_runSN (As := [.int x1, .int 5]) (rest := []) ⟨hx, hb, hml, hown, hts⟩ (c_Tn_isBelow l dC dI cI cL cZ ad tt H.size σ x1 5  r3 σ4 f2) ⟨va_cnB 2 hts (tq_gC tw_239) rfl rfl rfl (hN _ (List.mem_of_getElem? (i := 7) rfl)) (hts _ tw_1) (by decide +kernel) ⟨Nat.le_of_ble_eq_true rfl, Nat.le_of_ble_eq_true rfl⟩, hts _ tw_238, trivial⟩ ⟨tq_bl, (tq_pr hP hK hD hS hA hZ hN)⟩ rfl rfl hl.1 rfl (lv_room (Nat.le_of_ble_eq_true rfl)) d_Th_canLack_9 ⟨Nat.zero_le _, Nat.zero_le _⟩) hD hS hA (fun H locs hP hD hS => ?_)
          refine lv_if_ne (tgt := 17) hx hb d_Th_canLack_12 (by decide) (fun c5 => ?_) (fun c5 => ?_)
          · replace hg := tq_if_t c5 hg
            refine lv_aload_n hx hb d_Th_canLack_17 rfl (lv_at hl 0 rfl) ?_
            refine va_get (D := (dC, dI)) (ci := 4) (v := .ref (ad 1)) (C := "TableauNodes$Things") (T := F_Th) (N := 15) hx hb hts in_Th hown hK hP 4 rfl rfl 0 (by decide) (hts _ tw_174) (fun _ h9 => h9) rfl d_Th_canLack_18 ?_
            refine lv_iload_n hx hb d_Th_canLack_21 rfl (lv_at hl 2 rfl) ?_
            refine lv_aload_n hx hb d_Th_canLack_22 rfl (lv_at hl 0 rfl) ?_
            refine va_get (D := (dC, dI)) (ci := 4) (v := .ref (ad 29)) (C := "TableauNodes$Things") (T := F_Th) (N := 15) hx hb hts in_Th hown hK hP 4 rfl rfl 11 (by decide) (hts _ tw_185) (fun _ h9 => h9) rfl d_Th_canLack_23 ?_
            refine lv_iload_n hx hb d_Th_canLack_26 rfl (lv_at hl 1 rfl) ?_
            obtain ⟨g6, hg⟩ := tq_gd_s hg
            refine va_iald hx hb hK hP 29 0 rfl rfl g6 d_Th_canLack_27 ?_
            obtain ⟨r8, σ9, f7, hg⟩ := tq_ob_s hg
            refine tq_aI (va_runV (As := [.int x2, .int (ia σ4 16 x1)]) (rest := []) ⟨hx, hb, hml, hown, hts⟩ (c_Co_holds l dC dI cI cL cZ ad tt H.size σ4 x2 (ia σ4 16 x1)  r8 σ9 f7) (cwV 2 hts (tq_gV tw_588 tw_589 tw_590 tw_2 tw_591) rfl rfl rfl (by decide +kernel) ⟨Nat.le_of_ble_eq_true rfl, Nat.le_of_ble_eq_true rfl⟩) ⟨tq_bl, va_recv hK hP (ci := 1) (q0 := 1) rfl rfl, (tq_pr hP hK hD hS hA hZ hN)⟩ rfl rfl hl.1 rfl (lv_room (Nat.le_of_ble_eq_true rfl)) d_Th_canLack_28 ⟨Nat.zero_le _, Nat.zero_le _⟩) hD hS hA (fun H locs hP hD hS => ?_)
            refine lv_if_ne (tgt := 36) hx hb d_Th_canLack_31 (by decide) (fun c10 => ?_) (fun c10 => ?_)
            · replace hg := tq_if_t c10 hg
              refine lv_aload_n hx hb d_Th_canLack_36 rfl (lv_at hl 0 rfl) ?_
              obtain ⟨⟨⟩, σ13, f11, hg⟩ := tq_ob_s hg
              refine tq_aV (va_runV (As := []) (rest := []) ⟨hx, hb, hml, hown, hts⟩ (c_Th_begin l dC dI cI cL cZ ad tt H.size σ9    σ13 f11) (cwV 0 hts (tq_gV tw_487 tw_489 ts_17 tw_5 tw_490) rfl rfl rfl (by decide +kernel) ⟨Nat.le_of_ble_eq_true rfl, Nat.le_of_ble_eq_true rfl⟩) ⟨tq_bl, va_recv hK hP (ci := 4) (q0 := 4) rfl rfl, (tq_pr hP hK hD hS hA hZ hN)⟩ rfl rfl hl.1 rfl (lv_room (Nat.le_of_ble_eq_true rfl)) d_Th_canLack_37 ⟨Nat.zero_le _, Nat.zero_le _⟩) hD hS hA (fun H locs hP hD hS => ?_)
              refine lv_iconst (v := 0) hx hb d_Th_canLack_40 (by decide) ?_
              refine lv_istore_n (lv' := [(3, .int 0), (0, .ref (ad 4)), (1, .int x1), (2, .int x2)]) hx hb d_Th_canLack_41 rfl hl (by decide) rfl (fun ls hl => ?_)
              exact ih.2 hP hD hS (lv_sub hl [1, 2, 3, 0] rfl) (tq_gi hg hn)
            · replace hg := tq_if_n c10 hg
              refine lv_iconst (v := 1) hx hb d_Th_canLack_34 (by decide) ?_
              exact W.zret (v := 1) hx hb hr rfl (fun t ht hW => ⟨⟨1, σ9, rfl, tq_grI hg hn, by rw [ht]; exact hP, va_K.moved hW.alike hK, hD⟩, hS.F ht⟩) hS.2.2 d_Th_canLack_35
          · replace hg := tq_if_n c5 hg
            refine lv_iconst (v := 0) hx hb d_Th_canLack_15 (by decide) ?_
            exact W.zret (v := 0) hx hb hr rfl (fun t ht hW => ⟨⟨0, σ4, rfl, tq_grI hg hn, by rw [ht]; exact hP, va_K.moved hW.alike hK, hD⟩, hS.F ht⟩) hS.2.2 d_Th_canLack_16
      · intro x1 x2 x3 σ H locs ls hP hD hS hl h9
        obtain ⟨q9, hg, hn⟩ := tq_go_s h9 (show ¬ (42 : Nat) = tq_rt by decide)
        replace hg : bk_Th_canLack_42 [x1, x2, x3] [] σ = some q9 := hg
        unfold bk_Th_canLack_42 at hg
        refine lv_iload_n hx hb d_Th_canLack_42 rfl (lv_at hl 3 rfl) ?_
        refine lv_aload_n hx hb d_Th_canLack_43 rfl (lv_at hl 0 rfl) ?_
        refine va_get (D := (dC, dI)) (ci := 4) (v := .int (σ.2.2 9)) (C := "TableauNodes$Things") (T := F_Th) (N := 15) hx hb hts in_Th hown hK hP 4 rfl rfl 10 (by decide) (hts _ tw_184) (fun _ h9 => h9) rfl d_Th_canLack_44 ?_
        refine lv_icmp_ge (tgt := 83) hx hb d_Th_canLack_47 (by decide) (fun c14 => ?_) (fun c14 => ?_)
        · replace hg := tq_if_t c14 hg
          refine lv_aload_n hx hb d_Th_canLack_83 rfl (lv_at hl 0 rfl) ?_
          refine lv_iconst (v := 0) hx hb d_Th_canLack_84 (by decide) ?_
          refine lv_bipush (v := 31) hx hb d_Th_canLack_85 (by decide) ?_
          obtain ⟨r16, σ17, f15, hg⟩ := tq_ob_s hg
          refine tq_aI (va_runV (As := [.int 0, .int 31]) (rest := []) ⟨hx, hb, hml, hown, hts⟩ (c_Th_canExtend l dC dI cI cL cZ ad tt 6 H.size σ 0 31  r16 σ17 f15) (cwV 2 hts (tq_gV tw_508 tw_510 ts_19 tw_5 tw_511) rfl rfl rfl (by decide +kernel) ⟨Nat.le_of_ble_eq_true rfl, Nat.le_of_ble_eq_true rfl⟩) ⟨tq_bl, va_recv hK hP (ci := 4) (q0 := 4) rfl rfl, (tq_pr hP hK hD hS hA hZ hN)⟩ rfl rfl hl.1 rfl (lv_room (Nat.le_of_ble_eq_true rfl)) d_Th_canLack_87 ⟨Nat.zero_le _, Nat.zero_le _⟩) hD hS hA (fun H locs hP hD hS => ?_)
          obtain ⟨b18, hg⟩ := tq_gb_s hg
          exact W.zret (v := r16) hx hb hr (tq_nb b18) (fun t ht hW => ⟨⟨r16, σ17, rfl, tq_grI hg hn, by rw [ht]; exact hP, va_K.moved hW.alike hK, hD⟩, hS.F ht⟩) hS.2.2 d_Th_canLack_90
        · replace hg := tq_if_f c14 hg
          refine lv_aload_n hx hb d_Th_canLack_50 rfl (lv_at hl 0 rfl) ?_
          refine va_get (D := (dC, dI)) (ci := 4) (v := .ref (ad 26)) (C := "TableauNodes$Things") (T := F_Th) (N := 15) hx hb hts in_Th hown hK hP 4 rfl rfl 7 (by decide) (hts _ tw_181) (fun _ h9 => h9) rfl d_Th_canLack_51 ?_
          refine lv_iload_n hx hb d_Th_canLack_54 rfl (lv_at hl 1 rfl) ?_
          refine lv_bipush (v := 16) hx hb d_Th_canLack_55 (by decide) ?_
          refine lv_imul hx hb d_Th_canLack_57 ?_
          refine lv_iload_n hx hb d_Th_canLack_58 rfl (lv_at hl 3 rfl) ?_
          refine lv_iadd hx hb d_Th_canLack_59 ?_
          refine lv_dup2_11 hx hb d_Th_canLack_60 rfl rfl ?_
          obtain ⟨g19, hg⟩ := tq_gd_s hg
          refine va_lald hx hb hK hP 26 1 rfl rfl g19 d_Th_canLack_61 ?_
          refine lv_aload_n hx hb d_Th_canLack_62 rfl (lv_at hl 0 rfl) ?_
          refine va_get (D := (dC, dI)) (ci := 4) (v := .ref (ad 1)) (C := "TableauNodes$Things") (T := F_Th) (N := 15) hx hb hts in_Th hown hK hP 4 rfl rfl 0 (by decide) (hts _ tw_174) (fun _ h9 => h9) rfl d_Th_canLack_63 ?_
          refine lv_iload_n hx hb d_Th_canLack_66 rfl (lv_at hl 2 rfl) ?_
          refine lv_iload_n hx hb d_Th_canLack_67 rfl (lv_at hl 3 rfl) ?_
          obtain ⟨r21, σ22, f20, hg⟩ := tq_ob_s hg
          refine tq_aL (va_runV (As := [.int x2, .int x3]) (rest := [.long (la σ 5 ((x1 * 16) + x3)), .int ((x1 * 16) + x3), .ref (ad 26)]) ⟨hx, hb, hml, hown, hts⟩ (c_Co_word l dC dI cI cL cZ ad tt H.size σ x2 x3  r21 σ22 f20) (cwV 2 hts (tq_gV tw_449 tw_49 tw_50 tw_2 tw_51) rfl rfl rfl (by decide +kernel) ⟨Nat.le_of_ble_eq_true rfl, Nat.le_of_ble_eq_true rfl⟩) ⟨tq_bl, va_recv hK hP (ci := 1) (q0 := 1) rfl rfl, (tq_pr hP hK hD hS hA hZ hN)⟩ rfl rfl hl.1 rfl (lv_room (Nat.le_of_ble_eq_true rfl)) d_Th_canLack_68 ⟨Nat.zero_le _, Nat.zero_le _⟩) hD hS hA (fun H locs hP hD hS => ?_)
          refine lv_ldc2 (v := (-1)) hx hb hown (hts _ tw_173) d_Th_canLack_71 ?_
          refine lv_lxor hx hb d_Th_canLack_74 ?_
          refine lv_land hx hb d_Th_canLack_75 ?_
          obtain ⟨g23, hg⟩ := tq_gd_s hg
          refine va_last hx hb hK hP hD hS 26 1 rfl rfl g23 d_Th_canLack_76 (fun H locs hP hD hS => ?_)
          obtain ⟨σ24, eσ24, hg⟩ := tq_lj_s hg
          replace hP : va_P (dC, dI) tq_cl (wo cI cL cZ ad σ24) H := by rw [eσ24, ← ws_l5]; exact hP
          replace hD : va_D A (wo cI cL cZ ad σ24) := by rw [eσ24, ← ws_l5]; exact hD
          obtain ⟨v25, ev25, hg⟩ := tq_lj_s hg
          refine lv_iinc (v := v25) (lv' := [(3, .int v25), (0, .ref (ad 4)), (1, .int x1), (2, .int x2)]) hx hb d_Th_canLack_77 hl (k := 3) rfl (by rw [ev25]; rfl) (by decide) rfl (fun ls hl => ?_)
          refine lv_goto (tgt := 42) hx hb d_Th_canLack_80 (by decide) ?_
          exact ih.2 hP hD hS (lv_sub hl [1, 2, 3, 0] rfl) (tq_gi hg hn)
  exact (key n0).1 hP hD hS hl h0
noncomputable def bk_Tn_class0_0 : List Int32 → List Int64 → tq_S → Option tq_C
  | [x1], [], σ => tq_ob (tq_fI st_Tn_isBelow (0, [x1, 10], [], σ)) (fun r2 σ3 => if r2 = 0 then some (tq_rt, [(-1)], [], σ3) else tq_ob (tq_fI st_Co_make (0, [2, x1, 0], [], σ3)) (fun r6 σ7 => some (tq_rt, [r6], [], σ7)))
  | _, _, _ => none
noncomputable def st_Tn_class0 (c : tq_C) : Option tq_C := if c.1 = 0 then bk_Tn_class0_0 c.2.1 c.2.2.1 c.2.2.2 else none
set_option maxHeartbeats 40000000 in
set_option maxRecDepth 100000 in
theorem c_Tn_class0 (l : Launch) (dC : Nat → ClassId) (dI : Nat → Nat → Nat) (cI cL cZ : ClassId) (ad : Nat → Nat) (tt : Nat) (sz : Nat) (σ : tq_S) (a1 : Int32) (r : Int32) (σ' : tq_S) (hf : tq_fI st_Tn_class0 (0, [a1], [], σ) = some (r, σ')) : Met l y_Tn_class0 w_Tn_class0 ({ frames := 5, cells := 0, slots := 0, locals := 122 } : Room) (va_Pc [.ref (ad 0), .int a1] (tq_B dC dI cI cL cZ tt (wo cI cL cZ ad σ) sz)) (va_Qi (fun (r' : Int32) (u : tq_S) => r' = r ∧ u = σ') (tq_E dC dI cI cL cZ (wo cI cL cZ ad) (va_A (wo cI cL cZ ad σ) sz)) (va_A (wo cI cL cZ ad σ) sz)) 0 0 (va_A (wo cI cL cZ ad σ) sz) := by
  obtain ⟨n0, h0⟩ := tq_fI_to hf
  refine Met.ofW (cc := prog_1_method_2_code) (maxL := 2) (ret := (some .int)) (by decide) rfl ?_
  intro p e s m args below meth c s₁ B hml hv
  obtain ⟨rfl, hsz, hP, hK, hD0, hZ, hN⟩ := hv
  have hx := B.exec
  have hb := B.bytes
  have hr := B.returns
  have hts : ∀ w ∈ tq_T, w.before _ s = true := fun w h => atoms_spec (ws := w_Tn_class0) B.pre w (List.mem_cons_of_mem _ h)
  have hown : s.vm.findClass "TableauNodes" = some m.cls := findClass_of_methodNamed B.named
  have hlocks := B.notSynchronized
  subst hsz
  have hD := hD0.self (sz := s.heap.size)
  have hS : va_S (va_A (wo cI cL cZ ad σ) s.heap.size) s.heap s.heap [] := va_S.rf
  have hA : ∀ q : Nat, s.heap.size ≤ q → va_A (wo cI cL cZ ad σ) s.heap.size q := fun q h => Or.inr h
  generalize va_A (wo cI cL cZ ad σ) s.heap.size = A at hD hS hA hZ ⊢
  have hl := lv_entry ([.ref (ad 0), .int a1]) (n := 2) (Nat.le_of_ble_eq_true rfl)
  rw [lg_entry_eq]
  generalize (lg_sl ([.ref (ad 0), .int a1]) ++ List.replicate (2 - (lg_sl ([.ref (ad 0), .int a1])).length) Slot.unset).toArray = ls at hl ⊢
  have hl : lv_has ls 2 [(0, .ref (ad 0)), (1, .int a1)] := hl
  have key : ∀ n : Nat, (∀ {x1 : Int32} {σ : tq_S} {H : Heap} {locs : List Loc} {ls : Array Slot}, va_P (dC, dI) tq_cl (wo cI cL cZ ad σ) H → va_D A (wo cI cL cZ ad σ) → va_S A s.heap H locs → lv_has ls 2 [(0, .ref (ad 0)), (1, .int x1)] → tq_go st_Tn_class0 n (0, [x1], [], σ) = some (tq_rt, [r], [], σ') → W p l e (headSpec w_Tn_class0 ({ frames := 5, cells := 0, slots := 0, locals := 122 } : Room)).room s m ([.ref (ad 0), .int a1] : List Value).toArray below meth c H locs 0 0 (MQ below (va_Qi (fun (r' : Int32) (u : tq_S) => r' = r ∧ u = σ') (tq_E dC dI cI cL cZ (wo cI cL cZ ad) A) A) ([.ref (ad 0), .int a1] : List Value).toArray s 0 0 A) (F0 m 0 ls [])) := by
    intro n
    induction n with
    | zero => exact fun _ _ _ _ h => by cases h
    | succ n ih =>
      intro x1 σ H locs ls hP hD hS hl h9
      obtain ⟨q9, hg, hn⟩ := tq_go_s h9 (show ¬ (0 : Nat) = tq_rt by decide)
      replace hg : bk_Tn_class0_0 [x1] [] σ = some q9 := hg
      unfold bk_Tn_class0_0 at hg
      refine lv_iload_n hx hb d_Tn_class0_0 rfl (lv_at hl 1 rfl) ?_
      refine lv_bipush (v := 10) hx hb d_Tn_class0_1 (by decide) ?_
      obtain ⟨r2, σ3, f1, hg⟩ := tq_ob_s hg
      refine tq_aI (va_runS (As := [.int x1, .int 10]) (rest := []) ⟨hx, hb, hml, hown, hts⟩ (c_Tn_isBelow l dC dI cI cL cZ ad tt H.size σ x1 10  r2 σ3 f1) (va_cwS 2 hts (tq_gS tw_237 tw_238 tw_1 tw_239) rfl rfl rfl (by decide +kernel) ⟨Nat.le_of_ble_eq_true rfl, Nat.le_of_ble_eq_true rfl⟩) ⟨tq_bl, (tq_pr hP hK hD hS hA hZ hN)⟩ rfl rfl hl.1 rfl (lv_room (Nat.le_of_ble_eq_true rfl)) d_Tn_class0_3 ⟨Nat.zero_le _, Nat.zero_le _⟩) hD hS hA (fun H locs hP hD hS => ?_)
      refine lv_if_eq (tgt := 22) hx hb d_Tn_class0_6 (by decide) (fun c4 => ?_) (fun c4 => ?_)
      · replace hg := tq_if_t c4 hg
        refine lv_iconst (v := (-1)) hx hb d_Tn_class0_22 (by decide) ?_
        exact W.iret (v := (-1)) hx hb hr (fun t ht hW => ⟨⟨(-1), σ3, rfl, tq_grI hg hn, by rw [ht]; exact hP, va_K.moved hW.alike hK, hD⟩, hS.F ht⟩) hS.2.2 d_Tn_class0_23
      · replace hg := tq_if_f c4 hg
        refine lv_aload_n hx hb d_Tn_class0_9 rfl (lv_at hl 0 rfl) ?_
        refine va_get (D := (dC, dI)) (ci := 0) (v := .ref (ad 1)) (C := "TableauNodes") (T := F_Tn) (N := 4) hx hb hts in_Tn hown hK hP 0 rfl rfl 0 (by decide) (hts _ tw_220) (fun _ h9 => h9) rfl d_Tn_class0_10 ?_
        refine lv_iconst (v := 2) hx hb d_Tn_class0_13 (by decide) ?_
        refine lv_iload_n hx hb d_Tn_class0_14 rfl (lv_at hl 1 rfl) ?_
        refine lv_iconst (v := 0) hx hb d_Tn_class0_15 (by decide) ?_
        obtain ⟨r6, σ7, f5, hg⟩ := tq_ob_s hg
        refine tq_aI (va_runV (As := [.int 2, .int x1, .int 0]) (rest := []) ⟨hx, hb, hml, hown, hts⟩ (c_Co_make l dC dI cI cL cZ ad tt H.size σ3 2 x1 0  r6 σ7 f5) (cwV 3 hts (tq_gV tw_240 tw_26 tw_27 tw_2 tw_28) rfl rfl rfl (by decide +kernel) ⟨Nat.le_of_ble_eq_true rfl, Nat.le_of_ble_eq_true rfl⟩) ⟨tq_bl, va_recv hK hP (ci := 1) (q0 := 1) rfl rfl, (tq_pr hP hK hD hS hA hZ hN)⟩ rfl rfl hl.1 rfl (lv_room (Nat.le_of_ble_eq_true rfl)) d_Tn_class0_16 ⟨Nat.zero_le _, Nat.zero_le _⟩) hD hS hA (fun H locs hP hD hS => ?_)
        refine lv_goto (tgt := 23) hx hb d_Tn_class0_19 (by decide) ?_
        exact W.iret (v := r6) hx hb hr (fun t ht hW => ⟨⟨r6, σ7, rfl, tq_grI hg hn, by rw [ht]; exact hP, va_K.moved hW.alike hK, hD⟩, hS.F ht⟩) hS.2.2 d_Tn_class0_23
  exact (key n0) hP hD hS hl h0
noncomputable def bk_Tn_concept_0 : List Int32 → List Int64 → tq_S → Option tq_C
  | [x1, x2, x3], [], σ => if x1 = 3 then tq_ob (tq_fI st_Co_isThere (0, [x2], [], σ)) (fun r2 σ3 => if r2 = 0 then some (tq_rt, [(-1)], [], σ3) else tq_ob (tq_fI st_Co_make (0, [3, x2, 0], [], σ3)) (fun r6 σ7 => some (tq_rt, [r6], [], σ7))) else if x1 = 4 then tq_ob (tq_fI st_Co_isThere (0, [x2], [], σ)) (fun r9 σ10 => if r9 = 0 then some (tq_rt, [(-1)], [], σ10) else tq_ob (tq_fI st_Co_isThere (0, [x3], [], σ10)) (fun r13 σ14 => if r13 = 0 then some (tq_rt, [(-1)], [], σ14) else tq_ob (tq_fI st_Co_make (0, [x1, x2, x3], [], σ14)) (fun r17 σ18 => some (tq_rt, [r17], [], σ18)))) else if x1 = 5 then tq_ob (tq_fI st_Co_isThere (0, [x2], [], σ)) (fun r20 σ21 => if r20 = 0 then some (tq_rt, [(-1)], [], σ21) else tq_ob (tq_fI st_Co_isThere (0, [x3], [], σ21)) (fun r24 σ25 => if r24 = 0 then some (tq_rt, [(-1)], [], σ25) else tq_ob (tq_fI st_Co_make (0, [x1, x2, x3], [], σ25)) (fun r28 σ29 => some (tq_rt, [r28], [], σ29)))) else if x1 = 6 then tq_ob (tq_fI st_Tn_isBelow (0, [x2, 4], [], σ)) (fun r31 σ32 => if r31 = 0 then some (tq_rt, [(-1)], [], σ32) else tq_ob (tq_fI st_Co_isThere (0, [x3], [], σ32)) (fun r35 σ36 => if r35 = 0 then some (tq_rt, [(-1)], [], σ36) else tq_ob (tq_fI st_Co_make (0, [6, x2, x3], [], σ36)) (fun r39 σ40 => some (tq_rt, [r39], [], σ40)))) else if x1 = 7 then tq_ob (tq_fI st_Tn_isBelow (0, [x2, 4], [], σ)) (fun r42 σ43 => if r42 = 0 then some (tq_rt, [(-1)], [], σ43) else tq_ob (tq_fI st_Co_isThere (0, [x3], [], σ43)) (fun r46 σ47 => if r46 = 0 then some (tq_rt, [(-1)], [], σ47) else tq_ob (tq_fI st_Co_makeAll (0, [x2, x3], [], σ47)) (fun r50 σ51 => some (tq_rt, [r50], [], σ51)))) else some (tq_rt, [(-1)], [], σ)
  | _, _, _ => none
noncomputable def st_Tn_concept (c : tq_C) : Option tq_C := if c.1 = 0 then bk_Tn_concept_0 c.2.1 c.2.2.1 c.2.2.2 else none
set_option maxHeartbeats 40000000 in
set_option maxRecDepth 100000 in
theorem c_Tn_concept (l : Launch) (dC : Nat → ClassId) (dI : Nat → Nat → Nat) (cI cL cZ : ClassId) (ad : Nat → Nat) (tt : Nat) (sz : Nat) (σ : tq_S) (a1 : Int32) (a2 : Int32) (a3 : Int32) (r : Int32) (σ' : tq_S) (hf : tq_fI st_Tn_concept (0, [a1, a2, a3], [], σ) = some (r, σ')) : Met l y_Tn_concept w_Tn_concept ({ frames := 6, cells := 0, slots := 0, locals := 147 } : Room) (va_Pc [.ref (ad 0), .int a1, .int a2, .int a3] (tq_B dC dI cI cL cZ tt (wo cI cL cZ ad σ) sz)) (va_Qi (fun (r' : Int32) (u : tq_S) => r' = r ∧ u = σ') (tq_E dC dI cI cL cZ (wo cI cL cZ ad) (va_A (wo cI cL cZ ad σ) sz)) (va_A (wo cI cL cZ ad σ) sz)) 0 0 (va_A (wo cI cL cZ ad σ) sz) := by
  obtain ⟨n0, h0⟩ := tq_fI_to hf
  refine Met.ofW (cc := prog_1_method_3_code) (maxL := 4) (ret := (some .int)) (by decide) rfl ?_
  intro p e s m args below meth c s₁ B hml hv
  obtain ⟨rfl, hsz, hP, hK, hD0, hZ, hN⟩ := hv
  have hx := B.exec
  have hb := B.bytes
  have hr := B.returns
  have hts : ∀ w ∈ tq_T, w.before _ s = true := fun w h => atoms_spec (ws := w_Tn_concept) B.pre w (List.mem_cons_of_mem _ h)
  have hown : s.vm.findClass "TableauNodes" = some m.cls := findClass_of_methodNamed B.named
  have hlocks := B.notSynchronized
  subst hsz
  have hD := hD0.self (sz := s.heap.size)
  have hS : va_S (va_A (wo cI cL cZ ad σ) s.heap.size) s.heap s.heap [] := va_S.rf
  have hA : ∀ q : Nat, s.heap.size ≤ q → va_A (wo cI cL cZ ad σ) s.heap.size q := fun q h => Or.inr h
  generalize va_A (wo cI cL cZ ad σ) s.heap.size = A at hD hS hA hZ ⊢
  have hl := lv_entry ([.ref (ad 0), .int a1, .int a2, .int a3]) (n := 4) (Nat.le_of_ble_eq_true rfl)
  rw [lg_entry_eq]
  generalize (lg_sl ([.ref (ad 0), .int a1, .int a2, .int a3]) ++ List.replicate (4 - (lg_sl ([.ref (ad 0), .int a1, .int a2, .int a3])).length) Slot.unset).toArray = ls at hl ⊢
  have hl : lv_has ls 4 [(0, .ref (ad 0)), (1, .int a1), (2, .int a2), (3, .int a3)] := hl
  have key : ∀ n : Nat, (∀ {x1 x2 x3 : Int32} {σ : tq_S} {H : Heap} {locs : List Loc} {ls : Array Slot}, va_P (dC, dI) tq_cl (wo cI cL cZ ad σ) H → va_D A (wo cI cL cZ ad σ) → va_S A s.heap H locs → lv_has ls 4 [(0, .ref (ad 0)), (1, .int x1), (2, .int x2), (3, .int x3)] → tq_go st_Tn_concept n (0, [x1, x2, x3], [], σ) = some (tq_rt, [r], [], σ') → W p l e (headSpec w_Tn_concept ({ frames := 6, cells := 0, slots := 0, locals := 147 } : Room)).room s m ([.ref (ad 0), .int a1, .int a2, .int a3] : List Value).toArray below meth c H locs 0 0 (MQ below (va_Qi (fun (r' : Int32) (u : tq_S) => r' = r ∧ u = σ') (tq_E dC dI cI cL cZ (wo cI cL cZ ad) A) A) ([.ref (ad 0), .int a1, .int a2, .int a3] : List Value).toArray s 0 0 A) (F0 m 0 ls [])) := by
    intro n
    induction n with
    | zero => exact fun _ _ _ _ h => by cases h
    | succ n ih =>
      intro x1 x2 x3 σ H locs ls hP hD hS hl h9
      obtain ⟨q9, hg, hn⟩ := tq_go_s h9 (show ¬ (0 : Nat) = tq_rt by decide)
      replace hg : bk_Tn_concept_0 [x1, x2, x3] [] σ = some q9 := hg
      unfold bk_Tn_concept_0 at hg
      refine lv_iload_n hx hb d_Tn_concept_0 rfl (lv_at hl 1 rfl) ?_
      by_cases w52_3 : x1 = 3
      · replace hg := tq_if_t w52_3 hg
        refine lv_tableIn (tgt := 36) hx hb d_Tn_concept_1 (by rw [w52_3]; decide) (by rw [w52_3]; decide) (by rw [w52_3]; rfl) (by decide) ?_
        refine lv_aload_n hx hb d_Tn_concept_36 rfl (lv_at hl 0 rfl) ?_
        refine va_get (D := (dC, dI)) (ci := 0) (v := .ref (ad 1)) (C := "TableauNodes") (T := F_Tn) (N := 4) hx hb hts in_Tn hown hK hP 0 rfl rfl 0 (by decide) (hts _ tw_220) (fun _ h9 => h9) rfl d_Tn_concept_37 ?_
        refine lv_iload_n hx hb d_Tn_concept_40 rfl (lv_at hl 2 rfl) ?_
        obtain ⟨r2, σ3, f1, hg⟩ := tq_ob_s hg
        refine tq_aI (va_runV (As := [.int x2]) (rest := []) ⟨hx, hb, hml, hown, hts⟩ (c_Co_isThere l dC dI cI cL cZ ad tt H.size σ x2  r2 σ3 f1) (cwV 1 hts (tq_gV tw_245 tw_246 tw_247 tw_2 tw_248) rfl rfl rfl (by decide +kernel) ⟨Nat.le_of_ble_eq_true rfl, Nat.le_of_ble_eq_true rfl⟩) ⟨tq_bl, va_recv hK hP (ci := 1) (q0 := 1) rfl rfl, (tq_pr hP hK hD hS hA hZ hN)⟩ rfl rfl hl.1 rfl (lv_room (Nat.le_of_ble_eq_true rfl)) d_Tn_concept_41 ⟨Nat.zero_le _, Nat.zero_le _⟩) hD hS hA (fun H locs hP hD hS => ?_)
        refine lv_if_eq (tgt := 60) hx hb d_Tn_concept_44 (by decide) (fun c4 => ?_) (fun c4 => ?_)
        · replace hg := tq_if_t c4 hg
          refine lv_iconst (v := (-1)) hx hb d_Tn_concept_60 (by decide) ?_
          exact W.iret (v := (-1)) hx hb hr (fun t ht hW => ⟨⟨(-1), σ3, rfl, tq_grI hg hn, by rw [ht]; exact hP, va_K.moved hW.alike hK, hD⟩, hS.F ht⟩) hS.2.2 d_Tn_concept_61
        · replace hg := tq_if_f c4 hg
          refine lv_aload_n hx hb d_Tn_concept_47 rfl (lv_at hl 0 rfl) ?_
          refine va_get (D := (dC, dI)) (ci := 0) (v := .ref (ad 1)) (C := "TableauNodes") (T := F_Tn) (N := 4) hx hb hts in_Tn hown hK hP 0 rfl rfl 0 (by decide) (hts _ tw_220) (fun _ h9 => h9) rfl d_Tn_concept_48 ?_
          refine lv_iconst (v := 3) hx hb d_Tn_concept_51 (by decide) ?_
          refine lv_iload_n hx hb d_Tn_concept_52 rfl (lv_at hl 2 rfl) ?_
          refine lv_iconst (v := 0) hx hb d_Tn_concept_53 (by decide) ?_
          obtain ⟨r6, σ7, f5, hg⟩ := tq_ob_s hg
          refine tq_aI (va_runV (As := [.int 3, .int x2, .int 0]) (rest := []) ⟨hx, hb, hml, hown, hts⟩ (c_Co_make l dC dI cI cL cZ ad tt H.size σ3 3 x2 0  r6 σ7 f5) (cwV 3 hts (tq_gV tw_240 tw_26 tw_27 tw_2 tw_28) rfl rfl rfl (by decide +kernel) ⟨Nat.le_of_ble_eq_true rfl, Nat.le_of_ble_eq_true rfl⟩) ⟨tq_bl, va_recv hK hP (ci := 1) (q0 := 1) rfl rfl, (tq_pr hP hK hD hS hA hZ hN)⟩ rfl rfl hl.1 rfl (lv_room (Nat.le_of_ble_eq_true rfl)) d_Tn_concept_54 ⟨Nat.zero_le _, Nat.zero_le _⟩) hD hS hA (fun H locs hP hD hS => ?_)
          refine lv_goto (tgt := 61) hx hb d_Tn_concept_57 (by decide) ?_
          exact W.iret (v := r6) hx hb hr (fun t ht hW => ⟨⟨r6, σ7, rfl, tq_grI hg hn, by rw [ht]; exact hP, va_K.moved hW.alike hK, hD⟩, hS.F ht⟩) hS.2.2 d_Tn_concept_61
      replace hg := tq_if_f w52_3 hg
      by_cases w52_4 : x1 = 4
      · replace hg := tq_if_t w52_4 hg
        refine lv_tableIn (tgt := 62) hx hb d_Tn_concept_1 (by rw [w52_4]; decide) (by rw [w52_4]; decide) (by rw [w52_4]; rfl) (by decide) ?_
        refine lv_aload_n hx hb d_Tn_concept_62 rfl (lv_at hl 0 rfl) ?_
        refine va_get (D := (dC, dI)) (ci := 0) (v := .ref (ad 1)) (C := "TableauNodes") (T := F_Tn) (N := 4) hx hb hts in_Tn hown hK hP 0 rfl rfl 0 (by decide) (hts _ tw_220) (fun _ h9 => h9) rfl d_Tn_concept_63 ?_
        refine lv_iload_n hx hb d_Tn_concept_66 rfl (lv_at hl 2 rfl) ?_
        obtain ⟨r9, σ10, f8, hg⟩ := tq_ob_s hg
        refine tq_aI (va_runV (As := [.int x2]) (rest := []) ⟨hx, hb, hml, hown, hts⟩ (c_Co_isThere l dC dI cI cL cZ ad tt H.size σ x2  r9 σ10 f8) (cwV 1 hts (tq_gV tw_245 tw_246 tw_247 tw_2 tw_248) rfl rfl rfl (by decide +kernel) ⟨Nat.le_of_ble_eq_true rfl, Nat.le_of_ble_eq_true rfl⟩) ⟨tq_bl, va_recv hK hP (ci := 1) (q0 := 1) rfl rfl, (tq_pr hP hK hD hS hA hZ hN)⟩ rfl rfl hl.1 rfl (lv_room (Nat.le_of_ble_eq_true rfl)) d_Tn_concept_67 ⟨Nat.zero_le _, Nat.zero_le _⟩) hD hS hA (fun H locs hP hD hS => ?_)
        refine lv_if_eq (tgt := 97) hx hb d_Tn_concept_70 (by decide) (fun c11 => ?_) (fun c11 => ?_)
        · replace hg := tq_if_t c11 hg
          refine lv_iconst (v := (-1)) hx hb d_Tn_concept_97 (by decide) ?_
          exact W.iret (v := (-1)) hx hb hr (fun t ht hW => ⟨⟨(-1), σ10, rfl, tq_grI hg hn, by rw [ht]; exact hP, va_K.moved hW.alike hK, hD⟩, hS.F ht⟩) hS.2.2 d_Tn_concept_98
        · replace hg := tq_if_f c11 hg
          refine lv_aload_n hx hb d_Tn_concept_73 rfl (lv_at hl 0 rfl) ?_
          refine va_get (D := (dC, dI)) (ci := 0) (v := .ref (ad 1)) (C := "TableauNodes") (T := F_Tn) (N := 4) hx hb hts in_Tn hown hK hP 0 rfl rfl 0 (by decide) (hts _ tw_220) (fun _ h9 => h9) rfl d_Tn_concept_74 ?_
          refine lv_iload_n hx hb d_Tn_concept_77 rfl (lv_at hl 3 rfl) ?_
          obtain ⟨r13, σ14, f12, hg⟩ := tq_ob_s hg
          refine tq_aI (va_runV (As := [.int x3]) (rest := []) ⟨hx, hb, hml, hown, hts⟩ (c_Co_isThere l dC dI cI cL cZ ad tt H.size σ10 x3  r13 σ14 f12) (cwV 1 hts (tq_gV tw_245 tw_246 tw_247 tw_2 tw_248) rfl rfl rfl (by decide +kernel) ⟨Nat.le_of_ble_eq_true rfl, Nat.le_of_ble_eq_true rfl⟩) ⟨tq_bl, va_recv hK hP (ci := 1) (q0 := 1) rfl rfl, (tq_pr hP hK hD hS hA hZ hN)⟩ rfl rfl hl.1 rfl (lv_room (Nat.le_of_ble_eq_true rfl)) d_Tn_concept_78 ⟨Nat.zero_le _, Nat.zero_le _⟩) hD hS hA (fun H locs hP hD hS => ?_)
          refine lv_if_eq (tgt := 97) hx hb d_Tn_concept_81 (by decide) (fun c15 => ?_) (fun c15 => ?_)
          · replace hg := tq_if_t c15 hg
            refine lv_iconst (v := (-1)) hx hb d_Tn_concept_97 (by decide) ?_
            exact W.iret (v := (-1)) hx hb hr (fun t ht hW => ⟨⟨(-1), σ14, rfl, tq_grI hg hn, by rw [ht]; exact hP, va_K.moved hW.alike hK, hD⟩, hS.F ht⟩) hS.2.2 d_Tn_concept_98
          · replace hg := tq_if_f c15 hg
            refine lv_aload_n hx hb d_Tn_concept_84 rfl (lv_at hl 0 rfl) ?_
            refine va_get (D := (dC, dI)) (ci := 0) (v := .ref (ad 1)) (C := "TableauNodes") (T := F_Tn) (N := 4) hx hb hts in_Tn hown hK hP 0 rfl rfl 0 (by decide) (hts _ tw_220) (fun _ h9 => h9) rfl d_Tn_concept_85 ?_
            refine lv_iload_n hx hb d_Tn_concept_88 rfl (lv_at hl 1 rfl) ?_
            refine lv_iload_n hx hb d_Tn_concept_89 rfl (lv_at hl 2 rfl) ?_
            refine lv_iload_n hx hb d_Tn_concept_90 rfl (lv_at hl 3 rfl) ?_
            obtain ⟨r17, σ18, f16, hg⟩ := tq_ob_s hg
            refine tq_aI (va_runV (As := [.int x1, .int x2, .int x3]) (rest := []) ⟨hx, hb, hml, hown, hts⟩ (c_Co_make l dC dI cI cL cZ ad tt H.size σ14 x1 x2 x3  r17 σ18 f16) (cwV 3 hts (tq_gV tw_240 tw_26 tw_27 tw_2 tw_28) rfl rfl rfl (by decide +kernel) ⟨Nat.le_of_ble_eq_true rfl, Nat.le_of_ble_eq_true rfl⟩) ⟨tq_bl, va_recv hK hP (ci := 1) (q0 := 1) rfl rfl, (tq_pr hP hK hD hS hA hZ hN)⟩ rfl rfl hl.1 rfl (lv_room (Nat.le_of_ble_eq_true rfl)) d_Tn_concept_91 ⟨Nat.zero_le _, Nat.zero_le _⟩) hD hS hA (fun H locs hP hD hS => ?_)
            refine lv_goto (tgt := 98) hx hb d_Tn_concept_94 (by decide) ?_
            exact W.iret (v := r17) hx hb hr (fun t ht hW => ⟨⟨r17, σ18, rfl, tq_grI hg hn, by rw [ht]; exact hP, va_K.moved hW.alike hK, hD⟩, hS.F ht⟩) hS.2.2 d_Tn_concept_98
      replace hg := tq_if_f w52_4 hg
      by_cases w52_5 : x1 = 5
      · replace hg := tq_if_t w52_5 hg
        refine lv_tableIn (tgt := 62) hx hb d_Tn_concept_1 (by rw [w52_5]; decide) (by rw [w52_5]; decide) (by rw [w52_5]; rfl) (by decide) ?_
        refine lv_aload_n hx hb d_Tn_concept_62 rfl (lv_at hl 0 rfl) ?_
        refine va_get (D := (dC, dI)) (ci := 0) (v := .ref (ad 1)) (C := "TableauNodes") (T := F_Tn) (N := 4) hx hb hts in_Tn hown hK hP 0 rfl rfl 0 (by decide) (hts _ tw_220) (fun _ h9 => h9) rfl d_Tn_concept_63 ?_
        refine lv_iload_n hx hb d_Tn_concept_66 rfl (lv_at hl 2 rfl) ?_
        obtain ⟨r20, σ21, f19, hg⟩ := tq_ob_s hg
        refine tq_aI (va_runV (As := [.int x2]) (rest := []) ⟨hx, hb, hml, hown, hts⟩ (c_Co_isThere l dC dI cI cL cZ ad tt H.size σ x2  r20 σ21 f19) (cwV 1 hts (tq_gV tw_245 tw_246 tw_247 tw_2 tw_248) rfl rfl rfl (by decide +kernel) ⟨Nat.le_of_ble_eq_true rfl, Nat.le_of_ble_eq_true rfl⟩) ⟨tq_bl, va_recv hK hP (ci := 1) (q0 := 1) rfl rfl, (tq_pr hP hK hD hS hA hZ hN)⟩ rfl rfl hl.1 rfl (lv_room (Nat.le_of_ble_eq_true rfl)) d_Tn_concept_67 ⟨Nat.zero_le _, Nat.zero_le _⟩) hD hS hA (fun H locs hP hD hS => ?_)
        refine lv_if_eq (tgt := 97) hx hb d_Tn_concept_70 (by decide) (fun c22 => ?_) (fun c22 => ?_)
        · replace hg := tq_if_t c22 hg
          refine lv_iconst (v := (-1)) hx hb d_Tn_concept_97 (by decide) ?_
          exact W.iret (v := (-1)) hx hb hr (fun t ht hW => ⟨⟨(-1), σ21, rfl, tq_grI hg hn, by rw [ht]; exact hP, va_K.moved hW.alike hK, hD⟩, hS.F ht⟩) hS.2.2 d_Tn_concept_98
        · replace hg := tq_if_f c22 hg
          refine lv_aload_n hx hb d_Tn_concept_73 rfl (lv_at hl 0 rfl) ?_
          refine va_get (D := (dC, dI)) (ci := 0) (v := .ref (ad 1)) (C := "TableauNodes") (T := F_Tn) (N := 4) hx hb hts in_Tn hown hK hP 0 rfl rfl 0 (by decide) (hts _ tw_220) (fun _ h9 => h9) rfl d_Tn_concept_74 ?_
          refine lv_iload_n hx hb d_Tn_concept_77 rfl (lv_at hl 3 rfl) ?_
          obtain ⟨r24, σ25, f23, hg⟩ := tq_ob_s hg
          refine tq_aI (va_runV (As := [.int x3]) (rest := []) ⟨hx, hb, hml, hown, hts⟩ (c_Co_isThere l dC dI cI cL cZ ad tt H.size σ21 x3  r24 σ25 f23) (cwV 1 hts (tq_gV tw_245 tw_246 tw_247 tw_2 tw_248) rfl rfl rfl (by decide +kernel) ⟨Nat.le_of_ble_eq_true rfl, Nat.le_of_ble_eq_true rfl⟩) ⟨tq_bl, va_recv hK hP (ci := 1) (q0 := 1) rfl rfl, (tq_pr hP hK hD hS hA hZ hN)⟩ rfl rfl hl.1 rfl (lv_room (Nat.le_of_ble_eq_true rfl)) d_Tn_concept_78 ⟨Nat.zero_le _, Nat.zero_le _⟩) hD hS hA (fun H locs hP hD hS => ?_)
          refine lv_if_eq (tgt := 97) hx hb d_Tn_concept_81 (by decide) (fun c26 => ?_) (fun c26 => ?_)
          · replace hg := tq_if_t c26 hg
            refine lv_iconst (v := (-1)) hx hb d_Tn_concept_97 (by decide) ?_
            exact W.iret (v := (-1)) hx hb hr (fun t ht hW => ⟨⟨(-1), σ25, rfl, tq_grI hg hn, by rw [ht]; exact hP, va_K.moved hW.alike hK, hD⟩, hS.F ht⟩) hS.2.2 d_Tn_concept_98
          · replace hg := tq_if_f c26 hg
            refine lv_aload_n hx hb d_Tn_concept_84 rfl (lv_at hl 0 rfl) ?_
            refine va_get (D := (dC, dI)) (ci := 0) (v := .ref (ad 1)) (C := "TableauNodes") (T := F_Tn) (N := 4) hx hb hts in_Tn hown hK hP 0 rfl rfl 0 (by decide) (hts _ tw_220) (fun _ h9 => h9) rfl d_Tn_concept_85 ?_
            refine lv_iload_n hx hb d_Tn_concept_88 rfl (lv_at hl 1 rfl) ?_
            refine lv_iload_n hx hb d_Tn_concept_89 rfl (lv_at hl 2 rfl) ?_
            refine lv_iload_n hx hb d_Tn_concept_90 rfl (lv_at hl 3 rfl) ?_
            obtain ⟨r28, σ29, f27, hg⟩ := tq_ob_s hg
            refine tq_aI (va_runV (As := [.int x1, .int x2, .int x3]) (rest := []) ⟨hx, hb, hml, hown, hts⟩ (c_Co_make l dC dI cI cL cZ ad tt H.size σ25 x1 x2 x3  r28 σ29 f27) (cwV 3 hts (tq_gV tw_240 tw_26 tw_27 tw_2 tw_28) rfl rfl rfl (by decide +kernel) ⟨Nat.le_of_ble_eq_true rfl, Nat.le_of_ble_eq_true rfl⟩) ⟨tq_bl, va_recv hK hP (ci := 1) (q0 := 1) rfl rfl, (tq_pr hP hK hD hS hA hZ hN)⟩ rfl rfl hl.1 rfl (lv_room (Nat.le_of_ble_eq_true rfl)) d_Tn_concept_91 ⟨Nat.zero_le _, Nat.zero_le _⟩) hD hS hA (fun H locs hP hD hS => ?_)
            refine lv_goto (tgt := 98) hx hb d_Tn_concept_94 (by decide) ?_
            exact W.iret (v := r28) hx hb hr (fun t ht hW => ⟨⟨r28, σ29, rfl, tq_grI hg hn, by rw [ht]; exact hP, va_K.moved hW.alike hK, hD⟩, hS.F ht⟩) hS.2.2 d_Tn_concept_98
      replace hg := tq_if_f w52_5 hg
      by_cases w52_6 : x1 = 6
      · replace hg := tq_if_t w52_6 hg
        refine lv_tableIn (tgt := 99) hx hb d_Tn_concept_1 (by rw [w52_6]; decide) (by rw [w52_6]; decide) (by rw [w52_6]; rfl) (by decide) ?_
        refine lv_iload_n hx hb d_Tn_concept_99 rfl (lv_at hl 2 rfl) ?_
        refine lv_iconst (v := 4) hx hb d_Tn_concept_100 (by decide) ?_
        obtain ⟨r31, σ32, f30, hg⟩ := tq_ob_s hg
        refine tq_aI (va_runS (As := [.int x2, .int 4]) (rest := []) ⟨hx, hb, hml, hown, hts⟩ (c_Tn_isBelow l dC dI cI cL cZ ad tt H.size σ x2 4  r31 σ32 f30) (va_cwS 2 hts (tq_gS tw_237 tw_238 tw_1 tw_239) rfl rfl rfl (by decide +kernel) ⟨Nat.le_of_ble_eq_true rfl, Nat.le_of_ble_eq_true rfl⟩) ⟨tq_bl, (tq_pr hP hK hD hS hA hZ hN)⟩ rfl rfl hl.1 rfl (lv_room (Nat.le_of_ble_eq_true rfl)) d_Tn_concept_101 ⟨Nat.zero_le _, Nat.zero_le _⟩) hD hS hA (fun H locs hP hD hS => ?_)
        refine lv_if_eq (tgt := 132) hx hb d_Tn_concept_104 (by decide) (fun c33 => ?_) (fun c33 => ?_)
        · replace hg := tq_if_t c33 hg
          refine lv_iconst (v := (-1)) hx hb d_Tn_concept_132 (by decide) ?_
          exact W.iret (v := (-1)) hx hb hr (fun t ht hW => ⟨⟨(-1), σ32, rfl, tq_grI hg hn, by rw [ht]; exact hP, va_K.moved hW.alike hK, hD⟩, hS.F ht⟩) hS.2.2 d_Tn_concept_133
        · replace hg := tq_if_f c33 hg
          refine lv_aload_n hx hb d_Tn_concept_107 rfl (lv_at hl 0 rfl) ?_
          refine va_get (D := (dC, dI)) (ci := 0) (v := .ref (ad 1)) (C := "TableauNodes") (T := F_Tn) (N := 4) hx hb hts in_Tn hown hK hP 0 rfl rfl 0 (by decide) (hts _ tw_220) (fun _ h9 => h9) rfl d_Tn_concept_108 ?_
          refine lv_iload_n hx hb d_Tn_concept_111 rfl (lv_at hl 3 rfl) ?_
          obtain ⟨r35, σ36, f34, hg⟩ := tq_ob_s hg
          refine tq_aI (va_runV (As := [.int x3]) (rest := []) ⟨hx, hb, hml, hown, hts⟩ (c_Co_isThere l dC dI cI cL cZ ad tt H.size σ32 x3  r35 σ36 f34) (cwV 1 hts (tq_gV tw_245 tw_246 tw_247 tw_2 tw_248) rfl rfl rfl (by decide +kernel) ⟨Nat.le_of_ble_eq_true rfl, Nat.le_of_ble_eq_true rfl⟩) ⟨tq_bl, va_recv hK hP (ci := 1) (q0 := 1) rfl rfl, (tq_pr hP hK hD hS hA hZ hN)⟩ rfl rfl hl.1 rfl (lv_room (Nat.le_of_ble_eq_true rfl)) d_Tn_concept_112 ⟨Nat.zero_le _, Nat.zero_le _⟩) hD hS hA (fun H locs hP hD hS => ?_)
          refine lv_if_eq (tgt := 132) hx hb d_Tn_concept_115 (by decide) (fun c37 => ?_) (fun c37 => ?_)
          · replace hg := tq_if_t c37 hg
            refine lv_iconst (v := (-1)) hx hb d_Tn_concept_132 (by decide) ?_
            exact W.iret (v := (-1)) hx hb hr (fun t ht hW => ⟨⟨(-1), σ36, rfl, tq_grI hg hn, by rw [ht]; exact hP, va_K.moved hW.alike hK, hD⟩, hS.F ht⟩) hS.2.2 d_Tn_concept_133
          · replace hg := tq_if_f c37 hg
            refine lv_aload_n hx hb d_Tn_concept_118 rfl (lv_at hl 0 rfl) ?_
            refine va_get (D := (dC, dI)) (ci := 0) (v := .ref (ad 1)) (C := "TableauNodes") (T := F_Tn) (N := 4) hx hb hts in_Tn hown hK hP 0 rfl rfl 0 (by decide) (hts _ tw_220) (fun _ h9 => h9) rfl d_Tn_concept_119 ?_
            refine lv_bipush (v := 6) hx hb d_Tn_concept_122 (by decide) ?_
            refine lv_iload_n hx hb d_Tn_concept_124 rfl (lv_at hl 2 rfl) ?_
            refine lv_iload_n hx hb d_Tn_concept_125 rfl (lv_at hl 3 rfl) ?_
            obtain ⟨r39, σ40, f38, hg⟩ := tq_ob_s hg
            refine tq_aI (va_runV (As := [.int 6, .int x2, .int x3]) (rest := []) ⟨hx, hb, hml, hown, hts⟩ (c_Co_make l dC dI cI cL cZ ad tt H.size σ36 6 x2 x3  r39 σ40 f38) (cwV 3 hts (tq_gV tw_240 tw_26 tw_27 tw_2 tw_28) rfl rfl rfl (by decide +kernel) ⟨Nat.le_of_ble_eq_true rfl, Nat.le_of_ble_eq_true rfl⟩) ⟨tq_bl, va_recv hK hP (ci := 1) (q0 := 1) rfl rfl, (tq_pr hP hK hD hS hA hZ hN)⟩ rfl rfl hl.1 rfl (lv_room (Nat.le_of_ble_eq_true rfl)) d_Tn_concept_126 ⟨Nat.zero_le _, Nat.zero_le _⟩) hD hS hA (fun H locs hP hD hS => ?_)
            refine lv_goto (tgt := 133) hx hb d_Tn_concept_129 (by decide) ?_
            exact W.iret (v := r39) hx hb hr (fun t ht hW => ⟨⟨r39, σ40, rfl, tq_grI hg hn, by rw [ht]; exact hP, va_K.moved hW.alike hK, hD⟩, hS.F ht⟩) hS.2.2 d_Tn_concept_133
      replace hg := tq_if_f w52_6 hg
      by_cases w52_7 : x1 = 7
      · replace hg := tq_if_t w52_7 hg
        refine lv_tableIn (tgt := 134) hx hb d_Tn_concept_1 (by rw [w52_7]; decide) (by rw [w52_7]; decide) (by rw [w52_7]; rfl) (by decide) ?_
        refine lv_iload_n hx hb d_Tn_concept_134 rfl (lv_at hl 2 rfl) ?_
        refine lv_iconst (v := 4) hx hb d_Tn_concept_135 (by decide) ?_
        obtain ⟨r42, σ43, f41, hg⟩ := tq_ob_s hg
        refine tq_aI (va_runS (As := [.int x2, .int 4]) (rest := []) ⟨hx, hb, hml, hown, hts⟩ (c_Tn_isBelow l dC dI cI cL cZ ad tt H.size σ x2 4  r42 σ43 f41) (va_cwS 2 hts (tq_gS tw_237 tw_238 tw_1 tw_239) rfl rfl rfl (by decide +kernel) ⟨Nat.le_of_ble_eq_true rfl, Nat.le_of_ble_eq_true rfl⟩) ⟨tq_bl, (tq_pr hP hK hD hS hA hZ hN)⟩ rfl rfl hl.1 rfl (lv_room (Nat.le_of_ble_eq_true rfl)) d_Tn_concept_136 ⟨Nat.zero_le _, Nat.zero_le _⟩) hD hS hA (fun H locs hP hD hS => ?_)
        refine lv_if_eq (tgt := 165) hx hb d_Tn_concept_139 (by decide) (fun c44 => ?_) (fun c44 => ?_)
        · replace hg := tq_if_t c44 hg
          refine lv_iconst (v := (-1)) hx hb d_Tn_concept_165 (by decide) ?_
          exact W.iret (v := (-1)) hx hb hr (fun t ht hW => ⟨⟨(-1), σ43, rfl, tq_grI hg hn, by rw [ht]; exact hP, va_K.moved hW.alike hK, hD⟩, hS.F ht⟩) hS.2.2 d_Tn_concept_166
        · replace hg := tq_if_f c44 hg
          refine lv_aload_n hx hb d_Tn_concept_142 rfl (lv_at hl 0 rfl) ?_
          refine va_get (D := (dC, dI)) (ci := 0) (v := .ref (ad 1)) (C := "TableauNodes") (T := F_Tn) (N := 4) hx hb hts in_Tn hown hK hP 0 rfl rfl 0 (by decide) (hts _ tw_220) (fun _ h9 => h9) rfl d_Tn_concept_143 ?_
          refine lv_iload_n hx hb d_Tn_concept_146 rfl (lv_at hl 3 rfl) ?_
          obtain ⟨r46, σ47, f45, hg⟩ := tq_ob_s hg
          refine tq_aI (va_runV (As := [.int x3]) (rest := []) ⟨hx, hb, hml, hown, hts⟩ (c_Co_isThere l dC dI cI cL cZ ad tt H.size σ43 x3  r46 σ47 f45) (cwV 1 hts (tq_gV tw_245 tw_246 tw_247 tw_2 tw_248) rfl rfl rfl (by decide +kernel) ⟨Nat.le_of_ble_eq_true rfl, Nat.le_of_ble_eq_true rfl⟩) ⟨tq_bl, va_recv hK hP (ci := 1) (q0 := 1) rfl rfl, (tq_pr hP hK hD hS hA hZ hN)⟩ rfl rfl hl.1 rfl (lv_room (Nat.le_of_ble_eq_true rfl)) d_Tn_concept_147 ⟨Nat.zero_le _, Nat.zero_le _⟩) hD hS hA (fun H locs hP hD hS => ?_)
          refine lv_if_eq (tgt := 165) hx hb d_Tn_concept_150 (by decide) (fun c48 => ?_) (fun c48 => ?_)
          · replace hg := tq_if_t c48 hg
            refine lv_iconst (v := (-1)) hx hb d_Tn_concept_165 (by decide) ?_
            exact W.iret (v := (-1)) hx hb hr (fun t ht hW => ⟨⟨(-1), σ47, rfl, tq_grI hg hn, by rw [ht]; exact hP, va_K.moved hW.alike hK, hD⟩, hS.F ht⟩) hS.2.2 d_Tn_concept_166
          · replace hg := tq_if_f c48 hg
            refine lv_aload_n hx hb d_Tn_concept_153 rfl (lv_at hl 0 rfl) ?_
            refine va_get (D := (dC, dI)) (ci := 0) (v := .ref (ad 1)) (C := "TableauNodes") (T := F_Tn) (N := 4) hx hb hts in_Tn hown hK hP 0 rfl rfl 0 (by decide) (hts _ tw_220) (fun _ h9 => h9) rfl d_Tn_concept_154 ?_
            refine lv_iload_n hx hb d_Tn_concept_157 rfl (lv_at hl 2 rfl) ?_
            refine lv_iload_n hx hb d_Tn_concept_158 rfl (lv_at hl 3 rfl) ?_
            obtain ⟨r50, σ51, f49, hg⟩ := tq_ob_s hg
            refine tq_aI (va_runV (As := [.int x2, .int x3]) (rest := []) ⟨hx, hb, hml, hown, hts⟩ (c_Co_makeAll l dC dI cI cL cZ ad tt H.size σ47 x2 x3  r50 σ51 f49) (cwV 2 hts (tq_gV tw_249 tw_250 tw_251 tw_2 tw_252) rfl rfl rfl (by decide +kernel) ⟨Nat.le_of_ble_eq_true rfl, Nat.le_of_ble_eq_true rfl⟩) ⟨tq_bl, va_recv hK hP (ci := 1) (q0 := 1) rfl rfl, (tq_pr hP hK hD hS hA hZ hN)⟩ rfl rfl hl.1 rfl (lv_room (Nat.le_of_ble_eq_true rfl)) d_Tn_concept_159 ⟨Nat.zero_le _, Nat.zero_le _⟩) hD hS hA (fun H locs hP hD hS => ?_)
            refine lv_goto (tgt := 166) hx hb d_Tn_concept_162 (by decide) ?_
            exact W.iret (v := r50) hx hb hr (fun t ht hW => ⟨⟨r50, σ51, rfl, tq_grI hg hn, by rw [ht]; exact hP, va_K.moved hW.alike hK, hD⟩, hS.F ht⟩) hS.2.2 d_Tn_concept_166
      replace hg := tq_if_f w52_7 hg
      refine lv_tableOut (tgt := 167) hx hb d_Tn_concept_1 (by have q3 := tq_ni w52_3 (a := 3) (by decide); have q4 := tq_ni w52_4 (a := 4) (by decide); have q5 := tq_ni w52_5 (a := 5) (by decide); have q6 := tq_ni w52_6 (a := 6) (by decide); have q7 := tq_ni w52_7 (a := 7) (by decide); omega) (by decide) ?_
      refine lv_iconst (v := (-1)) hx hb d_Tn_concept_167 (by decide) ?_
      exact W.iret (v := (-1)) hx hb hr (fun t ht hW => ⟨⟨(-1), σ, rfl, tq_grI hg hn, by rw [ht]; exact hP, va_K.moved hW.alike hK, hD⟩, hS.F ht⟩) hS.2.2 d_Tn_concept_168
  exact (key n0) hP hD hS hl h0
noncomputable def bk_Tn_told_0 : List Int32 → List Int64 → tq_S → Option tq_C
  | [x1, x2], [], σ => tq_ob (tq_fI st_Co_isThere (0, [x1], [], σ)) (fun r2 σ3 => if r2 = 0 then some (tq_rt, [(-1)], [], σ3) else tq_ob (tq_fI st_Co_part (0, [x1, x2], [], σ3)) (fun r6 σ7 => some (tq_rt, [r6], [], σ7)))
  | _, _, _ => none
noncomputable def st_Tn_told (c : tq_C) : Option tq_C := if c.1 = 0 then bk_Tn_told_0 c.2.1 c.2.2.1 c.2.2.2 else none
set_option maxHeartbeats 40000000 in
set_option maxRecDepth 100000 in
theorem c_Tn_told (l : Launch) (dC : Nat → ClassId) (dI : Nat → Nat → Nat) (cI cL cZ : ClassId) (ad : Nat → Nat) (tt : Nat) (sz : Nat) (σ : tq_S) (a1 : Int32) (a2 : Int32) (r : Int32) (σ' : tq_S) (hf : tq_fI st_Tn_told (0, [a1, a2], [], σ) = some (r, σ')) : Met l y_Tn_told w_Tn_told ({ frames := 2, cells := 0, slots := 0, locals := 43 } : Room) (va_Pc [.ref (ad 0), .int a1, .int a2] (tq_B dC dI cI cL cZ tt (wo cI cL cZ ad σ) sz)) (va_Qi (fun (r' : Int32) (u : tq_S) => r' = r ∧ u = σ') (tq_E dC dI cI cL cZ (wo cI cL cZ ad) (va_A (wo cI cL cZ ad σ) sz)) (va_A (wo cI cL cZ ad σ) sz)) 0 0 (va_A (wo cI cL cZ ad σ) sz) := by
  obtain ⟨n0, h0⟩ := tq_fI_to hf
  refine Met.ofW (cc := prog_1_method_4_code) (maxL := 3) (ret := (some .int)) (by decide) rfl ?_
  intro p e s m args below meth c s₁ B hml hv
  obtain ⟨rfl, hsz, hP, hK, hD0, hZ, hN⟩ := hv
  have hx := B.exec
  have hb := B.bytes
  have hr := B.returns
  have hts : ∀ w ∈ tq_T, w.before _ s = true := fun w h => atoms_spec (ws := w_Tn_told) B.pre w (List.mem_cons_of_mem _ h)
  have hown : s.vm.findClass "TableauNodes" = some m.cls := findClass_of_methodNamed B.named
  have hlocks := B.notSynchronized
  subst hsz
  have hD := hD0.self (sz := s.heap.size)
  have hS : va_S (va_A (wo cI cL cZ ad σ) s.heap.size) s.heap s.heap [] := va_S.rf
  have hA : ∀ q : Nat, s.heap.size ≤ q → va_A (wo cI cL cZ ad σ) s.heap.size q := fun q h => Or.inr h
  generalize va_A (wo cI cL cZ ad σ) s.heap.size = A at hD hS hA hZ ⊢
  have hl := lv_entry ([.ref (ad 0), .int a1, .int a2]) (n := 3) (Nat.le_of_ble_eq_true rfl)
  rw [lg_entry_eq]
  generalize (lg_sl ([.ref (ad 0), .int a1, .int a2]) ++ List.replicate (3 - (lg_sl ([.ref (ad 0), .int a1, .int a2])).length) Slot.unset).toArray = ls at hl ⊢
  have hl : lv_has ls 3 [(0, .ref (ad 0)), (1, .int a1), (2, .int a2)] := hl
  have key : ∀ n : Nat, (∀ {x1 x2 : Int32} {σ : tq_S} {H : Heap} {locs : List Loc} {ls : Array Slot}, va_P (dC, dI) tq_cl (wo cI cL cZ ad σ) H → va_D A (wo cI cL cZ ad σ) → va_S A s.heap H locs → lv_has ls 3 [(0, .ref (ad 0)), (1, .int x1), (2, .int x2)] → tq_go st_Tn_told n (0, [x1, x2], [], σ) = some (tq_rt, [r], [], σ') → W p l e (headSpec w_Tn_told ({ frames := 2, cells := 0, slots := 0, locals := 43 } : Room)).room s m ([.ref (ad 0), .int a1, .int a2] : List Value).toArray below meth c H locs 0 0 (MQ below (va_Qi (fun (r' : Int32) (u : tq_S) => r' = r ∧ u = σ') (tq_E dC dI cI cL cZ (wo cI cL cZ ad) A) A) ([.ref (ad 0), .int a1, .int a2] : List Value).toArray s 0 0 A) (F0 m 0 ls [])) := by
    intro n
    induction n with
    | zero => exact fun _ _ _ _ h => by cases h
    | succ n ih =>
      intro x1 x2 σ H locs ls hP hD hS hl h9
      obtain ⟨q9, hg, hn⟩ := tq_go_s h9 (show ¬ (0 : Nat) = tq_rt by decide)
      replace hg : bk_Tn_told_0 [x1, x2] [] σ = some q9 := hg
      unfold bk_Tn_told_0 at hg
      refine lv_aload_n hx hb d_Tn_told_0 rfl (lv_at hl 0 rfl) ?_
      refine va_get (D := (dC, dI)) (ci := 0) (v := .ref (ad 1)) (C := "TableauNodes") (T := F_Tn) (N := 4) hx hb hts in_Tn hown hK hP 0 rfl rfl 0 (by decide) (hts _ tw_220) (fun _ h9 => h9) rfl d_Tn_told_1 ?_
      refine lv_iload_n hx hb d_Tn_told_4 rfl (lv_at hl 1 rfl) ?_
      obtain ⟨r2, σ3, f1, hg⟩ := tq_ob_s hg
      refine tq_aI (va_runV (As := [.int x1]) (rest := []) ⟨hx, hb, hml, hown, hts⟩ (c_Co_isThere l dC dI cI cL cZ ad tt H.size σ x1  r2 σ3 f1) (cwV 1 hts (tq_gV tw_245 tw_246 tw_247 tw_2 tw_248) rfl rfl rfl (by decide +kernel) ⟨Nat.le_of_ble_eq_true rfl, Nat.le_of_ble_eq_true rfl⟩) ⟨tq_bl, va_recv hK hP (ci := 1) (q0 := 1) rfl rfl, (tq_pr hP hK hD hS hA hZ hN)⟩ rfl rfl hl.1 rfl (lv_room (Nat.le_of_ble_eq_true rfl)) d_Tn_told_5 ⟨Nat.zero_le _, Nat.zero_le _⟩) hD hS hA (fun H locs hP hD hS => ?_)
      refine lv_if_eq (tgt := 23) hx hb d_Tn_told_8 (by decide) (fun c4 => ?_) (fun c4 => ?_)
      · replace hg := tq_if_t c4 hg
        refine lv_iconst (v := (-1)) hx hb d_Tn_told_23 (by decide) ?_
        exact W.iret (v := (-1)) hx hb hr (fun t ht hW => ⟨⟨(-1), σ3, rfl, tq_grI hg hn, by rw [ht]; exact hP, va_K.moved hW.alike hK, hD⟩, hS.F ht⟩) hS.2.2 d_Tn_told_24
      · replace hg := tq_if_f c4 hg
        refine lv_aload_n hx hb d_Tn_told_11 rfl (lv_at hl 0 rfl) ?_
        refine va_get (D := (dC, dI)) (ci := 0) (v := .ref (ad 1)) (C := "TableauNodes") (T := F_Tn) (N := 4) hx hb hts in_Tn hown hK hP 0 rfl rfl 0 (by decide) (hts _ tw_220) (fun _ h9 => h9) rfl d_Tn_told_12 ?_
        refine lv_iload_n hx hb d_Tn_told_15 rfl (lv_at hl 1 rfl) ?_
        refine lv_iload_n hx hb d_Tn_told_16 rfl (lv_at hl 2 rfl) ?_
        obtain ⟨r6, σ7, f5, hg⟩ := tq_ob_s hg
        refine tq_aI (va_runV (As := [.int x1, .int x2]) (rest := []) ⟨hx, hb, hml, hown, hts⟩ (c_Co_part l dC dI cI cL cZ ad tt H.size σ3 x1 x2  r6 σ7 f5) (cwV 2 hts (tq_gV tw_257 tw_258 tw_259 tw_2 tw_260) rfl rfl rfl (by decide +kernel) ⟨Nat.le_of_ble_eq_true rfl, Nat.le_of_ble_eq_true rfl⟩) ⟨tq_bl, va_recv hK hP (ci := 1) (q0 := 1) rfl rfl, (tq_pr hP hK hD hS hA hZ hN)⟩ rfl rfl hl.1 rfl (lv_room (Nat.le_of_ble_eq_true rfl)) d_Tn_told_17 ⟨Nat.zero_le _, Nat.zero_le _⟩) hD hS hA (fun H locs hP hD hS => ?_)
        refine lv_goto (tgt := 24) hx hb d_Tn_told_20 (by decide) ?_
        exact W.iret (v := r6) hx hb hr (fun t ht hW => ⟨⟨r6, σ7, rfl, tq_grI hg hn, by rw [ht]; exact hP, va_K.moved hW.alike hK, hD⟩, hS.F ht⟩) hS.2.2 d_Tn_told_24
  exact (key n0) hP hD hS hl h0
noncomputable def bk_Tn_concepts_0 : List Int32 → List Int64 → tq_S → Option tq_C
  | [], [], σ => tq_ob (tq_fI st_Co_size (0, [], [], σ)) (fun r2 σ3 => some (tq_rt, [r2], [], σ3))
  | _, _, _ => none
noncomputable def st_Tn_concepts (c : tq_C) : Option tq_C := if c.1 = 0 then bk_Tn_concepts_0 c.2.1 c.2.2.1 c.2.2.2 else none
set_option maxHeartbeats 40000000 in
set_option maxRecDepth 100000 in
theorem c_Tn_concepts (l : Launch) (dC : Nat → ClassId) (dI : Nat → Nat → Nat) (cI cL cZ : ClassId) (ad : Nat → Nat) (tt : Nat) (sz : Nat) (σ : tq_S) (r : Int32) (σ' : tq_S) (hf : tq_fI st_Tn_concepts (0, [], [], σ) = some (r, σ')) : Met l y_Tn_concepts w_Tn_concepts ({ frames := 1, cells := 0, slots := 0, locals := 20 } : Room) (va_Pc [.ref (ad 0)] (tq_B dC dI cI cL cZ tt (wo cI cL cZ ad σ) sz)) (va_Qi (fun (r' : Int32) (u : tq_S) => r' = r ∧ u = σ') (tq_E dC dI cI cL cZ (wo cI cL cZ ad) (va_A (wo cI cL cZ ad σ) sz)) (va_A (wo cI cL cZ ad σ) sz)) 0 0 (va_A (wo cI cL cZ ad σ) sz) := by
  obtain ⟨n0, h0⟩ := tq_fI_to hf
  refine Met.ofW (cc := prog_1_method_5_code) (maxL := 1) (ret := (some .int)) (by decide) rfl ?_
  intro p e s m args below meth c s₁ B hml hv
  obtain ⟨rfl, hsz, hP, hK, hD0, hZ, hN⟩ := hv
  have hx := B.exec
  have hb := B.bytes
  have hr := B.returns
  have hts : ∀ w ∈ tq_T, w.before _ s = true := fun w h => atoms_spec (ws := w_Tn_concepts) B.pre w (List.mem_cons_of_mem _ h)
  have hown : s.vm.findClass "TableauNodes" = some m.cls := findClass_of_methodNamed B.named
  have hlocks := B.notSynchronized
  subst hsz
  have hD := hD0.self (sz := s.heap.size)
  have hS : va_S (va_A (wo cI cL cZ ad σ) s.heap.size) s.heap s.heap [] := va_S.rf
  have hA : ∀ q : Nat, s.heap.size ≤ q → va_A (wo cI cL cZ ad σ) s.heap.size q := fun q h => Or.inr h
  generalize va_A (wo cI cL cZ ad σ) s.heap.size = A at hD hS hA hZ ⊢
  have hl := lv_entry ([.ref (ad 0)]) (n := 1) (Nat.le_of_ble_eq_true rfl)
  rw [lg_entry_eq]
  generalize (lg_sl ([.ref (ad 0)]) ++ List.replicate (1 - (lg_sl ([.ref (ad 0)])).length) Slot.unset).toArray = ls at hl ⊢
  have hl : lv_has ls 1 [(0, .ref (ad 0))] := hl
  have key : ∀ n : Nat, (∀ {σ : tq_S} {H : Heap} {locs : List Loc} {ls : Array Slot}, va_P (dC, dI) tq_cl (wo cI cL cZ ad σ) H → va_D A (wo cI cL cZ ad σ) → va_S A s.heap H locs → lv_has ls 1 [(0, .ref (ad 0))] → tq_go st_Tn_concepts n (0, [], [], σ) = some (tq_rt, [r], [], σ') → W p l e (headSpec w_Tn_concepts ({ frames := 1, cells := 0, slots := 0, locals := 20 } : Room)).room s m ([.ref (ad 0)] : List Value).toArray below meth c H locs 0 0 (MQ below (va_Qi (fun (r' : Int32) (u : tq_S) => r' = r ∧ u = σ') (tq_E dC dI cI cL cZ (wo cI cL cZ ad) A) A) ([.ref (ad 0)] : List Value).toArray s 0 0 A) (F0 m 0 ls [])) := by
    intro n
    induction n with
    | zero => exact fun _ _ _ _ h => by cases h
    | succ n ih =>
      intro  σ H locs ls hP hD hS hl h9
      obtain ⟨q9, hg, hn⟩ := tq_go_s h9 (show ¬ (0 : Nat) = tq_rt by decide)
      replace hg : bk_Tn_concepts_0 [] [] σ = some q9 := hg
      unfold bk_Tn_concepts_0 at hg
      refine lv_aload_n hx hb d_Tn_concepts_0 rfl (lv_at hl 0 rfl) ?_
      refine va_get (D := (dC, dI)) (ci := 0) (v := .ref (ad 1)) (C := "TableauNodes") (T := F_Tn) (N := 4) hx hb hts in_Tn hown hK hP 0 rfl rfl 0 (by decide) (hts _ tw_220) (fun _ h9 => h9) rfl d_Tn_concepts_1 ?_
      obtain ⟨r2, σ3, f1, hg⟩ := tq_ob_s hg
      refine tq_aI (va_runV (As := []) (rest := []) ⟨hx, hb, hml, hown, hts⟩ (c_Co_size l dC dI cI cL cZ ad tt H.size σ   r2 σ3 f1) (cwV 0 hts (tq_gV tw_266 tw_267 tw_268 tw_2 tw_269) rfl rfl rfl (by decide +kernel) ⟨Nat.le_of_ble_eq_true rfl, Nat.le_of_ble_eq_true rfl⟩) ⟨tq_bl, va_recv hK hP (ci := 1) (q0 := 1) rfl rfl, (tq_pr hP hK hD hS hA hZ hN)⟩ rfl rfl hl.1 rfl (lv_room (Nat.le_of_ble_eq_true rfl)) d_Tn_concepts_4 ⟨Nat.zero_le _, Nat.zero_le _⟩) hD hS hA (fun H locs hP hD hS => ?_)
      exact W.iret (v := r2) hx hb hr (fun t ht hW => ⟨⟨r2, σ3, rfl, tq_grI hg hn, by rw [ht]; exact hP, va_K.moved hW.alike hK, hD⟩, hS.F ht⟩) hS.2.2 d_Tn_concepts_7
  exact (key n0) hP hD hS hl h0
noncomputable def bk_Tn_atoms_0 : List Int32 → List Int64 → tq_S → Option tq_C
  | [], [], σ => tq_ob (tq_fI st_Co_atomCount (0, [], [], σ)) (fun r2 σ3 => some (tq_rt, [r2], [], σ3))
  | _, _, _ => none
noncomputable def st_Tn_atoms (c : tq_C) : Option tq_C := if c.1 = 0 then bk_Tn_atoms_0 c.2.1 c.2.2.1 c.2.2.2 else none
set_option maxHeartbeats 40000000 in
set_option maxRecDepth 100000 in
theorem c_Tn_atoms (l : Launch) (dC : Nat → ClassId) (dI : Nat → Nat → Nat) (cI cL cZ : ClassId) (ad : Nat → Nat) (tt : Nat) (sz : Nat) (σ : tq_S) (r : Int32) (σ' : tq_S) (hf : tq_fI st_Tn_atoms (0, [], [], σ) = some (r, σ')) : Met l y_Tn_atoms w_Tn_atoms ({ frames := 1, cells := 0, slots := 0, locals := 20 } : Room) (va_Pc [.ref (ad 0)] (tq_B dC dI cI cL cZ tt (wo cI cL cZ ad σ) sz)) (va_Qi (fun (r' : Int32) (u : tq_S) => r' = r ∧ u = σ') (tq_E dC dI cI cL cZ (wo cI cL cZ ad) (va_A (wo cI cL cZ ad σ) sz)) (va_A (wo cI cL cZ ad σ) sz)) 0 0 (va_A (wo cI cL cZ ad σ) sz) := by
  obtain ⟨n0, h0⟩ := tq_fI_to hf
  refine Met.ofW (cc := prog_1_method_6_code) (maxL := 1) (ret := (some .int)) (by decide) rfl ?_
  intro p e s m args below meth c s₁ B hml hv
  obtain ⟨rfl, hsz, hP, hK, hD0, hZ, hN⟩ := hv
  have hx := B.exec
  have hb := B.bytes
  have hr := B.returns
  have hts : ∀ w ∈ tq_T, w.before _ s = true := fun w h => atoms_spec (ws := w_Tn_atoms) B.pre w (List.mem_cons_of_mem _ h)
  have hown : s.vm.findClass "TableauNodes" = some m.cls := findClass_of_methodNamed B.named
  have hlocks := B.notSynchronized
  subst hsz
  have hD := hD0.self (sz := s.heap.size)
  have hS : va_S (va_A (wo cI cL cZ ad σ) s.heap.size) s.heap s.heap [] := va_S.rf
  have hA : ∀ q : Nat, s.heap.size ≤ q → va_A (wo cI cL cZ ad σ) s.heap.size q := fun q h => Or.inr h
  generalize va_A (wo cI cL cZ ad σ) s.heap.size = A at hD hS hA hZ ⊢
  have hl := lv_entry ([.ref (ad 0)]) (n := 1) (Nat.le_of_ble_eq_true rfl)
  rw [lg_entry_eq]
  generalize (lg_sl ([.ref (ad 0)]) ++ List.replicate (1 - (lg_sl ([.ref (ad 0)])).length) Slot.unset).toArray = ls at hl ⊢
  have hl : lv_has ls 1 [(0, .ref (ad 0))] := hl
  have key : ∀ n : Nat, (∀ {σ : tq_S} {H : Heap} {locs : List Loc} {ls : Array Slot}, va_P (dC, dI) tq_cl (wo cI cL cZ ad σ) H → va_D A (wo cI cL cZ ad σ) → va_S A s.heap H locs → lv_has ls 1 [(0, .ref (ad 0))] → tq_go st_Tn_atoms n (0, [], [], σ) = some (tq_rt, [r], [], σ') → W p l e (headSpec w_Tn_atoms ({ frames := 1, cells := 0, slots := 0, locals := 20 } : Room)).room s m ([.ref (ad 0)] : List Value).toArray below meth c H locs 0 0 (MQ below (va_Qi (fun (r' : Int32) (u : tq_S) => r' = r ∧ u = σ') (tq_E dC dI cI cL cZ (wo cI cL cZ ad) A) A) ([.ref (ad 0)] : List Value).toArray s 0 0 A) (F0 m 0 ls [])) := by
    intro n
    induction n with
    | zero => exact fun _ _ _ _ h => by cases h
    | succ n ih =>
      intro  σ H locs ls hP hD hS hl h9
      obtain ⟨q9, hg, hn⟩ := tq_go_s h9 (show ¬ (0 : Nat) = tq_rt by decide)
      replace hg : bk_Tn_atoms_0 [] [] σ = some q9 := hg
      unfold bk_Tn_atoms_0 at hg
      refine lv_aload_n hx hb d_Tn_atoms_0 rfl (lv_at hl 0 rfl) ?_
      refine va_get (D := (dC, dI)) (ci := 0) (v := .ref (ad 1)) (C := "TableauNodes") (T := F_Tn) (N := 4) hx hb hts in_Tn hown hK hP 0 rfl rfl 0 (by decide) (hts _ tw_220) (fun _ h9 => h9) rfl d_Tn_atoms_1 ?_
      obtain ⟨r2, σ3, f1, hg⟩ := tq_ob_s hg
      refine tq_aI (va_runV (As := []) (rest := []) ⟨hx, hb, hml, hown, hts⟩ (c_Co_atomCount l dC dI cI cL cZ ad tt H.size σ   r2 σ3 f1) (cwV 0 hts (tq_gV tw_274 tw_275 tw_276 tw_2 tw_277) rfl rfl rfl (by decide +kernel) ⟨Nat.le_of_ble_eq_true rfl, Nat.le_of_ble_eq_true rfl⟩) ⟨tq_bl, va_recv hK hP (ci := 1) (q0 := 1) rfl rfl, (tq_pr hP hK hD hS hA hZ hN)⟩ rfl rfl hl.1 rfl (lv_room (Nat.le_of_ble_eq_true rfl)) d_Tn_atoms_4 ⟨Nat.zero_le _, Nat.zero_le _⟩) hD hS hA (fun H locs hP hD hS => ?_)
      exact W.iret (v := r2) hx hb hr (fun t ht hW => ⟨⟨r2, σ3, rfl, tq_grI hg hn, by rw [ht]; exact hP, va_K.moved hW.alike hK, hD⟩, hS.F ht⟩) hS.2.2 d_Tn_atoms_7
  exact (key n0) hP hD hS hl h0
noncomputable def bk_Tn_axiom_0 : List Int32 → List Int64 → tq_S → Option tq_C
  | [x1, x2], [], σ => tq_ob (tq_fI st_Co_isThere (0, [x1], [], σ)) (fun r2 σ3 => if r2 = 0 then some (tq_rt, [(-1)], [], σ3) else tq_ob (tq_fI st_Co_isThere (0, [x2], [], σ3)) (fun r6 σ7 => if r6 = 0 then some (tq_rt, [(-1)], [], σ7) else tq_ob (tq_fI st_Go_addAxiom (0, [x1, x2], [], σ7)) (fun r10 σ11 => some (tq_rt, [r10], [], σ11))))
  | _, _, _ => none
noncomputable def st_Tn_axiom (c : tq_C) : Option tq_C := if c.1 = 0 then bk_Tn_axiom_0 c.2.1 c.2.2.1 c.2.2.2 else none
set_option maxHeartbeats 40000000 in
set_option maxRecDepth 100000 in
theorem c_Tn_axiom (l : Launch) (dC : Nat → ClassId) (dI : Nat → Nat → Nat) (cI cL cZ : ClassId) (ad : Nat → Nat) (tt : Nat) (sz : Nat) (σ : tq_S) (a1 : Int32) (a2 : Int32) (r : Int32) (σ' : tq_S) (hf : tq_fI st_Tn_axiom (0, [a1, a2], [], σ) = some (r, σ')) : Met l y_Tn_axiom w_Tn_axiom ({ frames := 1, cells := 0, slots := 0, locals := 22 } : Room) (va_Pc [.ref (ad 0), .int a1, .int a2] (tq_B dC dI cI cL cZ tt (wo cI cL cZ ad σ) sz)) (va_Qi (fun (r' : Int32) (u : tq_S) => r' = r ∧ u = σ') (tq_E dC dI cI cL cZ (wo cI cL cZ ad) (va_A (wo cI cL cZ ad σ) sz)) (va_A (wo cI cL cZ ad σ) sz)) 0 0 (va_A (wo cI cL cZ ad σ) sz) := by
  obtain ⟨n0, h0⟩ := tq_fI_to hf
  refine Met.ofW (cc := prog_1_method_7_code) (maxL := 3) (ret := (some .int)) (by decide) rfl ?_
  intro p e s m args below meth c s₁ B hml hv
  obtain ⟨rfl, hsz, hP, hK, hD0, hZ, hN⟩ := hv
  have hx := B.exec
  have hb := B.bytes
  have hr := B.returns
  have hts : ∀ w ∈ tq_T, w.before _ s = true := fun w h => atoms_spec (ws := w_Tn_axiom) B.pre w (List.mem_cons_of_mem _ h)
  have hown : s.vm.findClass "TableauNodes" = some m.cls := findClass_of_methodNamed B.named
  have hlocks := B.notSynchronized
  subst hsz
  have hD := hD0.self (sz := s.heap.size)
  have hS : va_S (va_A (wo cI cL cZ ad σ) s.heap.size) s.heap s.heap [] := va_S.rf
  have hA : ∀ q : Nat, s.heap.size ≤ q → va_A (wo cI cL cZ ad σ) s.heap.size q := fun q h => Or.inr h
  generalize va_A (wo cI cL cZ ad σ) s.heap.size = A at hD hS hA hZ ⊢
  have hl := lv_entry ([.ref (ad 0), .int a1, .int a2]) (n := 3) (Nat.le_of_ble_eq_true rfl)
  rw [lg_entry_eq]
  generalize (lg_sl ([.ref (ad 0), .int a1, .int a2]) ++ List.replicate (3 - (lg_sl ([.ref (ad 0), .int a1, .int a2])).length) Slot.unset).toArray = ls at hl ⊢
  have hl : lv_has ls 3 [(0, .ref (ad 0)), (1, .int a1), (2, .int a2)] := hl
  have key : ∀ n : Nat, (∀ {x1 x2 : Int32} {σ : tq_S} {H : Heap} {locs : List Loc} {ls : Array Slot}, va_P (dC, dI) tq_cl (wo cI cL cZ ad σ) H → va_D A (wo cI cL cZ ad σ) → va_S A s.heap H locs → lv_has ls 3 [(0, .ref (ad 0)), (1, .int x1), (2, .int x2)] → tq_go st_Tn_axiom n (0, [x1, x2], [], σ) = some (tq_rt, [r], [], σ') → W p l e (headSpec w_Tn_axiom ({ frames := 1, cells := 0, slots := 0, locals := 22 } : Room)).room s m ([.ref (ad 0), .int a1, .int a2] : List Value).toArray below meth c H locs 0 0 (MQ below (va_Qi (fun (r' : Int32) (u : tq_S) => r' = r ∧ u = σ') (tq_E dC dI cI cL cZ (wo cI cL cZ ad) A) A) ([.ref (ad 0), .int a1, .int a2] : List Value).toArray s 0 0 A) (F0 m 0 ls [])) := by
    intro n
    induction n with
    | zero => exact fun _ _ _ _ h => by cases h
    | succ n ih =>
      intro x1 x2 σ H locs ls hP hD hS hl h9
      obtain ⟨q9, hg, hn⟩ := tq_go_s h9 (show ¬ (0 : Nat) = tq_rt by decide)
      replace hg : bk_Tn_axiom_0 [x1, x2] [] σ = some q9 := hg
      unfold bk_Tn_axiom_0 at hg
      refine lv_aload_n hx hb d_Tn_axiom_0 rfl (lv_at hl 0 rfl) ?_
      refine va_get (D := (dC, dI)) (ci := 0) (v := .ref (ad 1)) (C := "TableauNodes") (T := F_Tn) (N := 4) hx hb hts in_Tn hown hK hP 0 rfl rfl 0 (by decide) (hts _ tw_220) (fun _ h9 => h9) rfl d_Tn_axiom_1 ?_
      refine lv_iload_n hx hb d_Tn_axiom_4 rfl (lv_at hl 1 rfl) ?_
      obtain ⟨r2, σ3, f1, hg⟩ := tq_ob_s hg
      refine tq_aI (va_runV (As := [.int x1]) (rest := []) ⟨hx, hb, hml, hown, hts⟩ (c_Co_isThere l dC dI cI cL cZ ad tt H.size σ x1  r2 σ3 f1) (cwV 1 hts (tq_gV tw_245 tw_246 tw_247 tw_2 tw_248) rfl rfl rfl (by decide +kernel) ⟨Nat.le_of_ble_eq_true rfl, Nat.le_of_ble_eq_true rfl⟩) ⟨tq_bl, va_recv hK hP (ci := 1) (q0 := 1) rfl rfl, (tq_pr hP hK hD hS hA hZ hN)⟩ rfl rfl hl.1 rfl (lv_room (Nat.le_of_ble_eq_true rfl)) d_Tn_axiom_5 ⟨Nat.zero_le _, Nat.zero_le _⟩) hD hS hA (fun H locs hP hD hS => ?_)
      refine lv_if_eq (tgt := 34) hx hb d_Tn_axiom_8 (by decide) (fun c4 => ?_) (fun c4 => ?_)
      · replace hg := tq_if_t c4 hg
        refine lv_iconst (v := (-1)) hx hb d_Tn_axiom_34 (by decide) ?_
        exact W.iret (v := (-1)) hx hb hr (fun t ht hW => ⟨⟨(-1), σ3, rfl, tq_grI hg hn, by rw [ht]; exact hP, va_K.moved hW.alike hK, hD⟩, hS.F ht⟩) hS.2.2 d_Tn_axiom_35
      · replace hg := tq_if_f c4 hg
        refine lv_aload_n hx hb d_Tn_axiom_11 rfl (lv_at hl 0 rfl) ?_
        refine va_get (D := (dC, dI)) (ci := 0) (v := .ref (ad 1)) (C := "TableauNodes") (T := F_Tn) (N := 4) hx hb hts in_Tn hown hK hP 0 rfl rfl 0 (by decide) (hts _ tw_220) (fun _ h9 => h9) rfl d_Tn_axiom_12 ?_
        refine lv_iload_n hx hb d_Tn_axiom_15 rfl (lv_at hl 2 rfl) ?_
        obtain ⟨r6, σ7, f5, hg⟩ := tq_ob_s hg
        refine tq_aI (va_runV (As := [.int x2]) (rest := []) ⟨hx, hb, hml, hown, hts⟩ (c_Co_isThere l dC dI cI cL cZ ad tt H.size σ3 x2  r6 σ7 f5) (cwV 1 hts (tq_gV tw_245 tw_246 tw_247 tw_2 tw_248) rfl rfl rfl (by decide +kernel) ⟨Nat.le_of_ble_eq_true rfl, Nat.le_of_ble_eq_true rfl⟩) ⟨tq_bl, va_recv hK hP (ci := 1) (q0 := 1) rfl rfl, (tq_pr hP hK hD hS hA hZ hN)⟩ rfl rfl hl.1 rfl (lv_room (Nat.le_of_ble_eq_true rfl)) d_Tn_axiom_16 ⟨Nat.zero_le _, Nat.zero_le _⟩) hD hS hA (fun H locs hP hD hS => ?_)
        refine lv_if_eq (tgt := 34) hx hb d_Tn_axiom_19 (by decide) (fun c8 => ?_) (fun c8 => ?_)
        · replace hg := tq_if_t c8 hg
          refine lv_iconst (v := (-1)) hx hb d_Tn_axiom_34 (by decide) ?_
          exact W.iret (v := (-1)) hx hb hr (fun t ht hW => ⟨⟨(-1), σ7, rfl, tq_grI hg hn, by rw [ht]; exact hP, va_K.moved hW.alike hK, hD⟩, hS.F ht⟩) hS.2.2 d_Tn_axiom_35
        · replace hg := tq_if_f c8 hg
          refine lv_aload_n hx hb d_Tn_axiom_22 rfl (lv_at hl 0 rfl) ?_
          refine va_get (D := (dC, dI)) (ci := 0) (v := .ref (ad 3)) (C := "TableauNodes") (T := F_Tn) (N := 4) hx hb hts in_Tn hown hK hP 0 rfl rfl 2 (by decide) (hts _ tw_222) (fun _ h9 => h9) rfl d_Tn_axiom_23 ?_
          refine lv_iload_n hx hb d_Tn_axiom_26 rfl (lv_at hl 1 rfl) ?_
          refine lv_iload_n hx hb d_Tn_axiom_27 rfl (lv_at hl 2 rfl) ?_
          obtain ⟨r10, σ11, f9, hg⟩ := tq_ob_s hg
          refine tq_aI (va_runV (As := [.int x1, .int x2]) (rest := []) ⟨hx, hb, hml, hown, hts⟩ (c_Go_addAxiom l dC dI cI cL cZ ad tt H.size σ7 x1 x2  r10 σ11 f9) (cwV 2 hts (tq_gV tw_282 tw_283 tw_284 tw_4 tw_285) rfl rfl rfl (by decide +kernel) ⟨Nat.le_of_ble_eq_true rfl, Nat.le_of_ble_eq_true rfl⟩) ⟨tq_bl, va_recv hK hP (ci := 3) (q0 := 3) rfl rfl, (tq_pr hP hK hD hS hA hZ hN)⟩ rfl rfl hl.1 rfl (lv_room (Nat.le_of_ble_eq_true rfl)) d_Tn_axiom_28 ⟨Nat.zero_le _, Nat.zero_le _⟩) hD hS hA (fun H locs hP hD hS => ?_)
          refine lv_goto (tgt := 35) hx hb d_Tn_axiom_31 (by decide) ?_
          exact W.iret (v := r10) hx hb hr (fun t ht hW => ⟨⟨r10, σ11, rfl, tq_grI hg hn, by rw [ht]; exact hP, va_K.moved hW.alike hK, hD⟩, hS.F ht⟩) hS.2.2 d_Tn_axiom_35
  exact (key n0) hP hD hS hl h0
noncomputable def bk_Tn_drop_0 : List Int32 → List Int64 → tq_S → Option tq_C
  | [], [], σ => tq_ob (tq_fI st_Go_dropAxiom (0, [], [], σ)) (fun r2 σ3 => some (tq_rt, [r2], [], σ3))
  | _, _, _ => none
noncomputable def st_Tn_drop (c : tq_C) : Option tq_C := if c.1 = 0 then bk_Tn_drop_0 c.2.1 c.2.2.1 c.2.2.2 else none
set_option maxHeartbeats 40000000 in
set_option maxRecDepth 100000 in
theorem c_Tn_drop (l : Launch) (dC : Nat → ClassId) (dI : Nat → Nat → Nat) (cI cL cZ : ClassId) (ad : Nat → Nat) (tt : Nat) (sz : Nat) (σ : tq_S) (r : Int32) (σ' : tq_S) (hf : tq_fI st_Tn_drop (0, [], [], σ) = some (r, σ')) : Met l y_Tn_drop w_Tn_drop ({ frames := 1, cells := 0, slots := 0, locals := 20 } : Room) (va_Pc [.ref (ad 0)] (tq_B dC dI cI cL cZ tt (wo cI cL cZ ad σ) sz)) (va_Qi (fun (r' : Int32) (u : tq_S) => r' = r ∧ u = σ') (tq_E dC dI cI cL cZ (wo cI cL cZ ad) (va_A (wo cI cL cZ ad σ) sz)) (va_A (wo cI cL cZ ad σ) sz)) 0 0 (va_A (wo cI cL cZ ad σ) sz) := by
  obtain ⟨n0, h0⟩ := tq_fI_to hf
  refine Met.ofW (cc := prog_1_method_8_code) (maxL := 1) (ret := (some .int)) (by decide) rfl ?_
  intro p e s m args below meth c s₁ B hml hv
  obtain ⟨rfl, hsz, hP, hK, hD0, hZ, hN⟩ := hv
  have hx := B.exec
  have hb := B.bytes
  have hr := B.returns
  have hts : ∀ w ∈ tq_T, w.before _ s = true := fun w h => atoms_spec (ws := w_Tn_drop) B.pre w (List.mem_cons_of_mem _ h)
  have hown : s.vm.findClass "TableauNodes" = some m.cls := findClass_of_methodNamed B.named
  have hlocks := B.notSynchronized
  subst hsz
  have hD := hD0.self (sz := s.heap.size)
  have hS : va_S (va_A (wo cI cL cZ ad σ) s.heap.size) s.heap s.heap [] := va_S.rf
  have hA : ∀ q : Nat, s.heap.size ≤ q → va_A (wo cI cL cZ ad σ) s.heap.size q := fun q h => Or.inr h
  generalize va_A (wo cI cL cZ ad σ) s.heap.size = A at hD hS hA hZ ⊢
  have hl := lv_entry ([.ref (ad 0)]) (n := 1) (Nat.le_of_ble_eq_true rfl)
  rw [lg_entry_eq]
  generalize (lg_sl ([.ref (ad 0)]) ++ List.replicate (1 - (lg_sl ([.ref (ad 0)])).length) Slot.unset).toArray = ls at hl ⊢
  have hl : lv_has ls 1 [(0, .ref (ad 0))] := hl
  have key : ∀ n : Nat, (∀ {σ : tq_S} {H : Heap} {locs : List Loc} {ls : Array Slot}, va_P (dC, dI) tq_cl (wo cI cL cZ ad σ) H → va_D A (wo cI cL cZ ad σ) → va_S A s.heap H locs → lv_has ls 1 [(0, .ref (ad 0))] → tq_go st_Tn_drop n (0, [], [], σ) = some (tq_rt, [r], [], σ') → W p l e (headSpec w_Tn_drop ({ frames := 1, cells := 0, slots := 0, locals := 20 } : Room)).room s m ([.ref (ad 0)] : List Value).toArray below meth c H locs 0 0 (MQ below (va_Qi (fun (r' : Int32) (u : tq_S) => r' = r ∧ u = σ') (tq_E dC dI cI cL cZ (wo cI cL cZ ad) A) A) ([.ref (ad 0)] : List Value).toArray s 0 0 A) (F0 m 0 ls [])) := by
    intro n
    induction n with
    | zero => exact fun _ _ _ _ h => by cases h
    | succ n ih =>
      intro  σ H locs ls hP hD hS hl h9
      obtain ⟨q9, hg, hn⟩ := tq_go_s h9 (show ¬ (0 : Nat) = tq_rt by decide)
      replace hg : bk_Tn_drop_0 [] [] σ = some q9 := hg
      unfold bk_Tn_drop_0 at hg
      refine lv_aload_n hx hb d_Tn_drop_0 rfl (lv_at hl 0 rfl) ?_
      refine va_get (D := (dC, dI)) (ci := 0) (v := .ref (ad 3)) (C := "TableauNodes") (T := F_Tn) (N := 4) hx hb hts in_Tn hown hK hP 0 rfl rfl 2 (by decide) (hts _ tw_222) (fun _ h9 => h9) rfl d_Tn_drop_1 ?_
      obtain ⟨r2, σ3, f1, hg⟩ := tq_ob_s hg
      refine tq_aI (va_runV (As := []) (rest := []) ⟨hx, hb, hml, hown, hts⟩ (c_Go_dropAxiom l dC dI cI cL cZ ad tt H.size σ   r2 σ3 f1) (cwV 0 hts (tq_gV tw_290 tw_291 tw_292 tw_4 tw_293) rfl rfl rfl (by decide +kernel) ⟨Nat.le_of_ble_eq_true rfl, Nat.le_of_ble_eq_true rfl⟩) ⟨tq_bl, va_recv hK hP (ci := 3) (q0 := 3) rfl rfl, (tq_pr hP hK hD hS hA hZ hN)⟩ rfl rfl hl.1 rfl (lv_room (Nat.le_of_ble_eq_true rfl)) d_Tn_drop_4 ⟨Nat.zero_le _, Nat.zero_le _⟩) hD hS hA (fun H locs hP hD hS => ?_)
      exact W.iret (v := r2) hx hb hr (fun t ht hW => ⟨⟨r2, σ3, rfl, tq_grI hg hn, by rw [ht]; exact hP, va_K.moved hW.alike hK, hD⟩, hS.F ht⟩) hS.2.2 d_Tn_drop_7
  exact (key n0) hP hD hS hl h0
noncomputable def bk_Tn_role_0 : List Int32 → List Int64 → tq_S → Option tq_C
  | [x1, x2], [], σ => tq_ob (tq_fI st_Tn_isBelow (0, [x1, 4], [], σ)) (fun r2 σ3 => if r2 = 0 then some (tq_rt, [(-1)], [], σ3) else tq_ob (tq_fI st_Tn_isBelow (0, [x2, 4], [], σ3)) (fun r6 σ7 => if ¬ r6 = 0 then tq_ob (tq_fI st_Ro_say (0, [x1, x2], [], σ7)) (fun r10 σ11 => if ¬ r10 = 0 then tq_ob (tq_fV st_Go_rolesChanged (0, [], [], σ11)) (fun _ σ15 => some (tq_rt, [1], [], σ15)) else some (tq_rt, [0], [], σ11)) else some (tq_rt, [(-1)], [], σ7)))
  | _, _, _ => none
noncomputable def st_Tn_role (c : tq_C) : Option tq_C := if c.1 = 0 then bk_Tn_role_0 c.2.1 c.2.2.1 c.2.2.2 else none
set_option maxHeartbeats 40000000 in
set_option maxRecDepth 100000 in
theorem c_Tn_role (l : Launch) (dC : Nat → ClassId) (dI : Nat → Nat → Nat) (cI cL cZ : ClassId) (ad : Nat → Nat) (tt : Nat) (sz : Nat) (σ : tq_S) (a1 : Int32) (a2 : Int32) (r : Int32) (σ' : tq_S) (hf : tq_fI st_Tn_role (0, [a1, a2], [], σ) = some (r, σ')) : Met l y_Tn_role w_Tn_role ({ frames := 3, cells := 0, slots := 0, locals := 66 } : Room) (va_Pc [.ref (ad 0), .int a1, .int a2] (tq_B dC dI cI cL cZ tt (wo cI cL cZ ad σ) sz)) (va_Qi (fun (r' : Int32) (u : tq_S) => r' = r ∧ u = σ') (tq_E dC dI cI cL cZ (wo cI cL cZ ad) (va_A (wo cI cL cZ ad σ) sz)) (va_A (wo cI cL cZ ad σ) sz)) 0 0 (va_A (wo cI cL cZ ad σ) sz) := by
  obtain ⟨n0, h0⟩ := tq_fI_to hf
  refine Met.ofW (cc := prog_1_method_9_code) (maxL := 3) (ret := (some .int)) (by decide) rfl ?_
  intro p e s m args below meth c s₁ B hml hv
  obtain ⟨rfl, hsz, hP, hK, hD0, hZ, hN⟩ := hv
  have hx := B.exec
  have hb := B.bytes
  have hr := B.returns
  have hts : ∀ w ∈ tq_T, w.before _ s = true := fun w h => atoms_spec (ws := w_Tn_role) B.pre w (List.mem_cons_of_mem _ h)
  have hown : s.vm.findClass "TableauNodes" = some m.cls := findClass_of_methodNamed B.named
  have hlocks := B.notSynchronized
  subst hsz
  have hD := hD0.self (sz := s.heap.size)
  have hS : va_S (va_A (wo cI cL cZ ad σ) s.heap.size) s.heap s.heap [] := va_S.rf
  have hA : ∀ q : Nat, s.heap.size ≤ q → va_A (wo cI cL cZ ad σ) s.heap.size q := fun q h => Or.inr h
  generalize va_A (wo cI cL cZ ad σ) s.heap.size = A at hD hS hA hZ ⊢
  have hl := lv_entry ([.ref (ad 0), .int a1, .int a2]) (n := 3) (Nat.le_of_ble_eq_true rfl)
  rw [lg_entry_eq]
  generalize (lg_sl ([.ref (ad 0), .int a1, .int a2]) ++ List.replicate (3 - (lg_sl ([.ref (ad 0), .int a1, .int a2])).length) Slot.unset).toArray = ls at hl ⊢
  have hl : lv_has ls 3 [(0, .ref (ad 0)), (1, .int a1), (2, .int a2)] := hl
  have key : ∀ n : Nat, (∀ {x1 x2 : Int32} {σ : tq_S} {H : Heap} {locs : List Loc} {ls : Array Slot}, va_P (dC, dI) tq_cl (wo cI cL cZ ad σ) H → va_D A (wo cI cL cZ ad σ) → va_S A s.heap H locs → lv_has ls 3 [(0, .ref (ad 0)), (1, .int x1), (2, .int x2)] → tq_go st_Tn_role n (0, [x1, x2], [], σ) = some (tq_rt, [r], [], σ') → W p l e (headSpec w_Tn_role ({ frames := 3, cells := 0, slots := 0, locals := 66 } : Room)).room s m ([.ref (ad 0), .int a1, .int a2] : List Value).toArray below meth c H locs 0 0 (MQ below (va_Qi (fun (r' : Int32) (u : tq_S) => r' = r ∧ u = σ') (tq_E dC dI cI cL cZ (wo cI cL cZ ad) A) A) ([.ref (ad 0), .int a1, .int a2] : List Value).toArray s 0 0 A) (F0 m 0 ls [])) := by
    intro n
    induction n with
    | zero => exact fun _ _ _ _ h => by cases h
    | succ n ih =>
      intro x1 x2 σ H locs ls hP hD hS hl h9
      obtain ⟨q9, hg, hn⟩ := tq_go_s h9 (show ¬ (0 : Nat) = tq_rt by decide)
      replace hg : bk_Tn_role_0 [x1, x2] [] σ = some q9 := hg
      unfold bk_Tn_role_0 at hg
      refine lv_iload_n hx hb d_Tn_role_0 rfl (lv_at hl 1 rfl) ?_
      refine lv_iconst (v := 4) hx hb d_Tn_role_1 (by decide) ?_
      obtain ⟨r2, σ3, f1, hg⟩ := tq_ob_s hg
      refine tq_aI (va_runS (As := [.int x1, .int 4]) (rest := []) ⟨hx, hb, hml, hown, hts⟩ (c_Tn_isBelow l dC dI cI cL cZ ad tt H.size σ x1 4  r2 σ3 f1) (va_cwS 2 hts (tq_gS tw_237 tw_238 tw_1 tw_239) rfl rfl rfl (by decide +kernel) ⟨Nat.le_of_ble_eq_true rfl, Nat.le_of_ble_eq_true rfl⟩) ⟨tq_bl, (tq_pr hP hK hD hS hA hZ hN)⟩ rfl rfl hl.1 rfl (lv_room (Nat.le_of_ble_eq_true rfl)) d_Tn_role_2 ⟨Nat.zero_le _, Nat.zero_le _⟩) hD hS hA (fun H locs hP hD hS => ?_)
      refine lv_if_eq (tgt := 16) hx hb d_Tn_role_5 (by decide) (fun c4 => ?_) (fun c4 => ?_)
      · replace hg := tq_if_t c4 hg
        refine lv_iconst (v := (-1)) hx hb d_Tn_role_16 (by decide) ?_
        exact W.iret (v := (-1)) hx hb hr (fun t ht hW => ⟨⟨(-1), σ3, rfl, tq_grI hg hn, by rw [ht]; exact hP, va_K.moved hW.alike hK, hD⟩, hS.F ht⟩) hS.2.2 d_Tn_role_17
      · replace hg := tq_if_f c4 hg
        refine lv_iload_n hx hb d_Tn_role_8 rfl (lv_at hl 2 rfl) ?_
        refine lv_iconst (v := 4) hx hb d_Tn_role_9 (by decide) ?_
        obtain ⟨r6, σ7, f5, hg⟩ := tq_ob_s hg
        refine tq_aI (va_runS (As := [.int x2, .int 4]) (rest := []) ⟨hx, hb, hml, hown, hts⟩ (c_Tn_isBelow l dC dI cI cL cZ ad tt H.size σ3 x2 4  r6 σ7 f5) (va_cwS 2 hts (tq_gS tw_237 tw_238 tw_1 tw_239) rfl rfl rfl (by decide +kernel) ⟨Nat.le_of_ble_eq_true rfl, Nat.le_of_ble_eq_true rfl⟩) ⟨tq_bl, (tq_pr hP hK hD hS hA hZ hN)⟩ rfl rfl hl.1 rfl (lv_room (Nat.le_of_ble_eq_true rfl)) d_Tn_role_10 ⟨Nat.zero_le _, Nat.zero_le _⟩) hD hS hA (fun H locs hP hD hS => ?_)
        refine lv_if_ne (tgt := 18) hx hb d_Tn_role_13 (by decide) (fun c8 => ?_) (fun c8 => ?_)
        · replace hg := tq_if_t c8 hg
          refine lv_aload_n hx hb d_Tn_role_18 rfl (lv_at hl 0 rfl) ?_
          refine va_get (D := (dC, dI)) (ci := 0) (v := .ref (ad 2)) (C := "TableauNodes") (T := F_Tn) (N := 4) hx hb hts in_Tn hown hK hP 0 rfl rfl 1 (by decide) (hts _ tw_221) (fun _ h9 => h9) rfl d_Tn_role_19 ?_
          refine lv_iload_n hx hb d_Tn_role_22 rfl (lv_at hl 1 rfl) ?_
          refine lv_iload_n hx hb d_Tn_role_23 rfl (lv_at hl 2 rfl) ?_
          obtain ⟨r10, σ11, f9, hg⟩ := tq_ob_s hg
          refine tq_aI (va_runV (As := [.int x1, .int x2]) (rest := []) ⟨hx, hb, hml, hown, hts⟩ (c_Ro_say l dC dI cI cL cZ ad tt H.size σ7 x1 x2  r10 σ11 f9) (cwV 2 hts (tq_gV tw_298 tw_299 tw_300 tw_3 tw_301) rfl rfl rfl (by decide +kernel) ⟨Nat.le_of_ble_eq_true rfl, Nat.le_of_ble_eq_true rfl⟩) ⟨tq_bl, va_recv hK hP (ci := 2) (q0 := 2) rfl rfl, (tq_pr hP hK hD hS hA hZ hN)⟩ rfl rfl hl.1 rfl (lv_room (Nat.le_of_ble_eq_true rfl)) d_Tn_role_24 ⟨Nat.zero_le _, Nat.zero_le _⟩) hD hS hA (fun H locs hP hD hS => ?_)
          refine lv_if_ne (tgt := 32) hx hb d_Tn_role_27 (by decide) (fun c12 => ?_) (fun c12 => ?_)
          · replace hg := tq_if_t c12 hg
            refine lv_aload_n hx hb d_Tn_role_32 rfl (lv_at hl 0 rfl) ?_
            refine va_get (D := (dC, dI)) (ci := 0) (v := .ref (ad 3)) (C := "TableauNodes") (T := F_Tn) (N := 4) hx hb hts in_Tn hown hK hP 0 rfl rfl 2 (by decide) (hts _ tw_222) (fun _ h9 => h9) rfl d_Tn_role_33 ?_
            obtain ⟨⟨⟩, σ15, f13, hg⟩ := tq_ob_s hg
            refine tq_aV (va_runV (As := []) (rest := []) ⟨hx, hb, hml, hown, hts⟩ (c_Go_rolesChanged l dC dI cI cL cZ ad tt H.size σ11    σ15 f13) (cwV 0 hts (tq_gV tw_303 tw_304 tw_305 tw_4 tw_306) rfl rfl rfl (by decide +kernel) ⟨Nat.le_of_ble_eq_true rfl, Nat.le_of_ble_eq_true rfl⟩) ⟨tq_bl, va_recv hK hP (ci := 3) (q0 := 3) rfl rfl, (tq_pr hP hK hD hS hA hZ hN)⟩ rfl rfl hl.1 rfl (lv_room (Nat.le_of_ble_eq_true rfl)) d_Tn_role_36 ⟨Nat.zero_le _, Nat.zero_le _⟩) hD hS hA (fun H locs hP hD hS => ?_)
            refine lv_iconst (v := 1) hx hb d_Tn_role_39 (by decide) ?_
            exact W.iret (v := 1) hx hb hr (fun t ht hW => ⟨⟨1, σ15, rfl, tq_grI hg hn, by rw [ht]; exact hP, va_K.moved hW.alike hK, hD⟩, hS.F ht⟩) hS.2.2 d_Tn_role_40
          · replace hg := tq_if_n c12 hg
            refine lv_iconst (v := 0) hx hb d_Tn_role_30 (by decide) ?_
            exact W.iret (v := 0) hx hb hr (fun t ht hW => ⟨⟨0, σ11, rfl, tq_grI hg hn, by rw [ht]; exact hP, va_K.moved hW.alike hK, hD⟩, hS.F ht⟩) hS.2.2 d_Tn_role_31
        · replace hg := tq_if_n c8 hg
          refine lv_iconst (v := (-1)) hx hb d_Tn_role_16 (by decide) ?_
          exact W.iret (v := (-1)) hx hb hr (fun t ht hW => ⟨⟨(-1), σ7, rfl, tq_grI hg hn, by rw [ht]; exact hP, va_K.moved hW.alike hK, hD⟩, hS.F ht⟩) hS.2.2 d_Tn_role_17
  exact (key n0) hP hD hS hl h0
noncomputable def bk_Tn_can_0 : List Int32 → List Int64 → tq_S → Option tq_C
  | [x1], [], σ => tq_ob (tq_fI st_Co_isThere (0, [x1], [], σ)) (fun r2 σ3 => if ¬ r2 = 0 then tq_ob (tq_fV st_Go_refresh (0, [], [], σ3)) (fun _ σ7 => tq_ob (tq_fI st_Go_someAre (0, [x1], [], σ7)) (fun r9 σ10 => if r9 = 0 then some (tq_rt, [0], [], σ10) else some (tq_rt, [1], [], σ10))) else some (tq_rt, [(-1)], [], σ3))
  | _, _, _ => none
noncomputable def st_Tn_can (c : tq_C) : Option tq_C := if c.1 = 0 then bk_Tn_can_0 c.2.1 c.2.2.1 c.2.2.2 else none
set_option maxHeartbeats 40000000 in
set_option maxRecDepth 100000 in
theorem c_Tn_can (l : Launch) (dC : Nat → ClassId) (dI : Nat → Nat → Nat) (cI cL cZ : ClassId) (ad : Nat → Nat) (tt : Nat) (sz : Nat) (σ : tq_S) (a1 : Int32) (r : Int32) (σ' : tq_S) (hf : tq_fI st_Tn_can (0, [a1], [], σ) = some (r, σ')) : Met l y_Tn_can w_Tn_can ({ frames := 6, cells := 0, slots := 0, locals := 136 } : Room) (va_Pc [.ref (ad 0), .int a1] (tq_B dC dI cI cL cZ tt (wo cI cL cZ ad σ) sz)) (va_Qi (fun (r' : Int32) (u : tq_S) => r' = r ∧ u = σ') (tq_E dC dI cI cL cZ (wo cI cL cZ ad) (va_A (wo cI cL cZ ad σ) sz)) (va_A (wo cI cL cZ ad σ) sz)) 0 0 (va_A (wo cI cL cZ ad σ) sz) := by
  obtain ⟨n0, h0⟩ := tq_fI_to hf
  refine Met.ofW (cc := prog_1_method_10_code) (maxL := 2) (ret := (some .int)) (by decide) rfl ?_
  intro p e s m args below meth c s₁ B hml hv
  obtain ⟨rfl, hsz, hP, hK, hD0, hZ, hN⟩ := hv
  have hx := B.exec
  have hb := B.bytes
  have hr := B.returns
  have hts : ∀ w ∈ tq_T, w.before _ s = true := fun w h => atoms_spec (ws := w_Tn_can) B.pre w (List.mem_cons_of_mem _ h)
  have hown : s.vm.findClass "TableauNodes" = some m.cls := findClass_of_methodNamed B.named
  have hlocks := B.notSynchronized
  subst hsz
  have hD := hD0.self (sz := s.heap.size)
  have hS : va_S (va_A (wo cI cL cZ ad σ) s.heap.size) s.heap s.heap [] := va_S.rf
  have hA : ∀ q : Nat, s.heap.size ≤ q → va_A (wo cI cL cZ ad σ) s.heap.size q := fun q h => Or.inr h
  generalize va_A (wo cI cL cZ ad σ) s.heap.size = A at hD hS hA hZ ⊢
  have hl := lv_entry ([.ref (ad 0), .int a1]) (n := 2) (Nat.le_of_ble_eq_true rfl)
  rw [lg_entry_eq]
  generalize (lg_sl ([.ref (ad 0), .int a1]) ++ List.replicate (2 - (lg_sl ([.ref (ad 0), .int a1])).length) Slot.unset).toArray = ls at hl ⊢
  have hl : lv_has ls 2 [(0, .ref (ad 0)), (1, .int a1)] := hl
  have key : ∀ n : Nat, (∀ {x1 : Int32} {σ : tq_S} {H : Heap} {locs : List Loc} {ls : Array Slot}, va_P (dC, dI) tq_cl (wo cI cL cZ ad σ) H → va_D A (wo cI cL cZ ad σ) → va_S A s.heap H locs → lv_has ls 2 [(0, .ref (ad 0)), (1, .int x1)] → tq_go st_Tn_can n (0, [x1], [], σ) = some (tq_rt, [r], [], σ') → W p l e (headSpec w_Tn_can ({ frames := 6, cells := 0, slots := 0, locals := 136 } : Room)).room s m ([.ref (ad 0), .int a1] : List Value).toArray below meth c H locs 0 0 (MQ below (va_Qi (fun (r' : Int32) (u : tq_S) => r' = r ∧ u = σ') (tq_E dC dI cI cL cZ (wo cI cL cZ ad) A) A) ([.ref (ad 0), .int a1] : List Value).toArray s 0 0 A) (F0 m 0 ls [])) := by
    intro n
    induction n with
    | zero => exact fun _ _ _ _ h => by cases h
    | succ n ih =>
      intro x1 σ H locs ls hP hD hS hl h9
      obtain ⟨q9, hg, hn⟩ := tq_go_s h9 (show ¬ (0 : Nat) = tq_rt by decide)
      replace hg : bk_Tn_can_0 [x1] [] σ = some q9 := hg
      unfold bk_Tn_can_0 at hg
      refine lv_aload_n hx hb d_Tn_can_0 rfl (lv_at hl 0 rfl) ?_
      refine va_get (D := (dC, dI)) (ci := 0) (v := .ref (ad 1)) (C := "TableauNodes") (T := F_Tn) (N := 4) hx hb hts in_Tn hown hK hP 0 rfl rfl 0 (by decide) (hts _ tw_220) (fun _ h9 => h9) rfl d_Tn_can_1 ?_
      refine lv_iload_n hx hb d_Tn_can_4 rfl (lv_at hl 1 rfl) ?_
      obtain ⟨r2, σ3, f1, hg⟩ := tq_ob_s hg
      refine tq_aI (va_runV (As := [.int x1]) (rest := []) ⟨hx, hb, hml, hown, hts⟩ (c_Co_isThere l dC dI cI cL cZ ad tt H.size σ x1  r2 σ3 f1) (cwV 1 hts (tq_gV tw_245 tw_246 tw_247 tw_2 tw_248) rfl rfl rfl (by decide +kernel) ⟨Nat.le_of_ble_eq_true rfl, Nat.le_of_ble_eq_true rfl⟩) ⟨tq_bl, va_recv hK hP (ci := 1) (q0 := 1) rfl rfl, (tq_pr hP hK hD hS hA hZ hN)⟩ rfl rfl hl.1 rfl (lv_room (Nat.le_of_ble_eq_true rfl)) d_Tn_can_5 ⟨Nat.zero_le _, Nat.zero_le _⟩) hD hS hA (fun H locs hP hD hS => ?_)
      refine lv_if_ne (tgt := 13) hx hb d_Tn_can_8 (by decide) (fun c4 => ?_) (fun c4 => ?_)
      · replace hg := tq_if_t c4 hg
        refine lv_aload_n hx hb d_Tn_can_13 rfl (lv_at hl 0 rfl) ?_
        refine va_get (D := (dC, dI)) (ci := 0) (v := .ref (ad 3)) (C := "TableauNodes") (T := F_Tn) (N := 4) hx hb hts in_Tn hown hK hP 0 rfl rfl 2 (by decide) (hts _ tw_222) (fun _ h9 => h9) rfl d_Tn_can_14 ?_
        obtain ⟨⟨⟩, σ7, f5, hg⟩ := tq_ob_s hg
        refine tq_aV (va_runV (As := []) (rest := []) ⟨hx, hb, hml, hown, hts⟩ (c_Go_refresh l dC dI cI cL cZ ad tt H.size σ3    σ7 f5) (cwV 0 hts (tq_gV tw_311 tw_312 tw_313 tw_4 tw_314) rfl rfl rfl (by decide +kernel) ⟨Nat.le_of_ble_eq_true rfl, Nat.le_of_ble_eq_true rfl⟩) ⟨tq_bl, va_recv hK hP (ci := 3) (q0 := 3) rfl rfl, (tq_pr hP hK hD hS hA hZ hN)⟩ rfl rfl hl.1 rfl (lv_room (Nat.le_of_ble_eq_true rfl)) d_Tn_can_17 ⟨Nat.zero_le _, Nat.zero_le _⟩) hD hS hA (fun H locs hP hD hS => ?_)
        refine lv_aload_n hx hb d_Tn_can_20 rfl (lv_at hl 0 rfl) ?_
        refine va_get (D := (dC, dI)) (ci := 0) (v := .ref (ad 3)) (C := "TableauNodes") (T := F_Tn) (N := 4) hx hb hts in_Tn hown hK hP 0 rfl rfl 2 (by decide) (hts _ tw_222) (fun _ h9 => h9) rfl d_Tn_can_21 ?_
        refine lv_iload_n hx hb d_Tn_can_24 rfl (lv_at hl 1 rfl) ?_
        obtain ⟨r9, σ10, f8, hg⟩ := tq_ob_s hg
        refine tq_aI (va_runV (As := [.int x1]) (rest := []) ⟨hx, hb, hml, hown, hts⟩ (c_Go_someAre l dC dI cI cL cZ ad tt H.size σ7 x1  r9 σ10 f8) (cwV 1 hts (tq_gV tw_402 tw_403 tw_404 tw_4 tw_405) rfl rfl rfl (by decide +kernel) ⟨Nat.le_of_ble_eq_true rfl, Nat.le_of_ble_eq_true rfl⟩) ⟨tq_bl, va_recv hK hP (ci := 3) (q0 := 3) rfl rfl, (tq_pr hP hK hD hS hA hZ hN)⟩ rfl rfl hl.1 rfl (lv_room (Nat.le_of_ble_eq_true rfl)) d_Tn_can_25 ⟨Nat.zero_le _, Nat.zero_le _⟩) hD hS hA (fun H locs hP hD hS => ?_)
        refine lv_if_eq (tgt := 35) hx hb d_Tn_can_28 (by decide) (fun c11 => ?_) (fun c11 => ?_)
        · replace hg := tq_if_t c11 hg
          refine lv_iconst (v := 0) hx hb d_Tn_can_35 (by decide) ?_
          exact W.iret (v := 0) hx hb hr (fun t ht hW => ⟨⟨0, σ10, rfl, tq_grI hg hn, by rw [ht]; exact hP, va_K.moved hW.alike hK, hD⟩, hS.F ht⟩) hS.2.2 d_Tn_can_36
        · replace hg := tq_if_f c11 hg
          refine lv_iconst (v := 1) hx hb d_Tn_can_31 (by decide) ?_
          refine lv_goto (tgt := 36) hx hb d_Tn_can_32 (by decide) ?_
          exact W.iret (v := 1) hx hb hr (fun t ht hW => ⟨⟨1, σ10, rfl, tq_grI hg hn, by rw [ht]; exact hP, va_K.moved hW.alike hK, hD⟩, hS.F ht⟩) hS.2.2 d_Tn_can_36
      · replace hg := tq_if_n c4 hg
        refine lv_iconst (v := (-1)) hx hb d_Tn_can_11 (by decide) ?_
        exact W.iret (v := (-1)) hx hb hr (fun t ht hW => ⟨⟨(-1), σ3, rfl, tq_grI hg hn, by rw [ht]; exact hP, va_K.moved hW.alike hK, hD⟩, hS.F ht⟩) hS.2.2 d_Tn_can_12
  exact (key n0) hP hD hS hl h0
noncomputable def bk_Tn_below_0 : List Int32 → List Int64 → tq_S → Option tq_C
  | [x1, x2], [], σ => tq_ob (tq_fI st_Co_isThere (0, [x1], [], σ)) (fun r2 σ3 => if r2 = 0 then some (tq_rt, [(-1)], [], σ3) else tq_ob (tq_fI st_Co_isThere (0, [x2], [], σ3)) (fun r6 σ7 => if ¬ r6 = 0 then tq_ob (tq_fV st_Go_refresh (0, [], [], σ7)) (fun _ σ11 => tq_ob (tq_fI st_Go_eachIs (0, [x1, x2], [], σ11)) (fun r13 σ14 => if r13 = 0 then some (tq_rt, [0], [], σ14) else some (tq_rt, [1], [], σ14))) else some (tq_rt, [(-1)], [], σ7)))
  | _, _, _ => none
noncomputable def st_Tn_below (c : tq_C) : Option tq_C := if c.1 = 0 then bk_Tn_below_0 c.2.1 c.2.2.1 c.2.2.2 else none
set_option maxHeartbeats 40000000 in
set_option maxRecDepth 100000 in
theorem c_Tn_below (l : Launch) (dC : Nat → ClassId) (dI : Nat → Nat → Nat) (cI cL cZ : ClassId) (ad : Nat → Nat) (tt : Nat) (sz : Nat) (σ : tq_S) (a1 : Int32) (a2 : Int32) (r : Int32) (σ' : tq_S) (hf : tq_fI st_Tn_below (0, [a1, a2], [], σ) = some (r, σ')) : Met l y_Tn_below w_Tn_below ({ frames := 6, cells := 0, slots := 0, locals := 136 } : Room) (va_Pc [.ref (ad 0), .int a1, .int a2] (tq_B dC dI cI cL cZ tt (wo cI cL cZ ad σ) sz)) (va_Qi (fun (r' : Int32) (u : tq_S) => r' = r ∧ u = σ') (tq_E dC dI cI cL cZ (wo cI cL cZ ad) (va_A (wo cI cL cZ ad σ) sz)) (va_A (wo cI cL cZ ad σ) sz)) 0 0 (va_A (wo cI cL cZ ad σ) sz) := by
  obtain ⟨n0, h0⟩ := tq_fI_to hf
  refine Met.ofW (cc := prog_1_method_11_code) (maxL := 3) (ret := (some .int)) (by decide) rfl ?_
  intro p e s m args below meth c s₁ B hml hv
  obtain ⟨rfl, hsz, hP, hK, hD0, hZ, hN⟩ := hv
  have hx := B.exec
  have hb := B.bytes
  have hr := B.returns
  have hts : ∀ w ∈ tq_T, w.before _ s = true := fun w h => atoms_spec (ws := w_Tn_below) B.pre w (List.mem_cons_of_mem _ h)
  have hown : s.vm.findClass "TableauNodes" = some m.cls := findClass_of_methodNamed B.named
  have hlocks := B.notSynchronized
  subst hsz
  have hD := hD0.self (sz := s.heap.size)
  have hS : va_S (va_A (wo cI cL cZ ad σ) s.heap.size) s.heap s.heap [] := va_S.rf
  have hA : ∀ q : Nat, s.heap.size ≤ q → va_A (wo cI cL cZ ad σ) s.heap.size q := fun q h => Or.inr h
  generalize va_A (wo cI cL cZ ad σ) s.heap.size = A at hD hS hA hZ ⊢
  have hl := lv_entry ([.ref (ad 0), .int a1, .int a2]) (n := 3) (Nat.le_of_ble_eq_true rfl)
  rw [lg_entry_eq]
  generalize (lg_sl ([.ref (ad 0), .int a1, .int a2]) ++ List.replicate (3 - (lg_sl ([.ref (ad 0), .int a1, .int a2])).length) Slot.unset).toArray = ls at hl ⊢
  have hl : lv_has ls 3 [(0, .ref (ad 0)), (1, .int a1), (2, .int a2)] := hl
  have key : ∀ n : Nat, (∀ {x1 x2 : Int32} {σ : tq_S} {H : Heap} {locs : List Loc} {ls : Array Slot}, va_P (dC, dI) tq_cl (wo cI cL cZ ad σ) H → va_D A (wo cI cL cZ ad σ) → va_S A s.heap H locs → lv_has ls 3 [(0, .ref (ad 0)), (1, .int x1), (2, .int x2)] → tq_go st_Tn_below n (0, [x1, x2], [], σ) = some (tq_rt, [r], [], σ') → W p l e (headSpec w_Tn_below ({ frames := 6, cells := 0, slots := 0, locals := 136 } : Room)).room s m ([.ref (ad 0), .int a1, .int a2] : List Value).toArray below meth c H locs 0 0 (MQ below (va_Qi (fun (r' : Int32) (u : tq_S) => r' = r ∧ u = σ') (tq_E dC dI cI cL cZ (wo cI cL cZ ad) A) A) ([.ref (ad 0), .int a1, .int a2] : List Value).toArray s 0 0 A) (F0 m 0 ls [])) := by
    intro n
    induction n with
    | zero => exact fun _ _ _ _ h => by cases h
    | succ n ih =>
      intro x1 x2 σ H locs ls hP hD hS hl h9
      obtain ⟨q9, hg, hn⟩ := tq_go_s h9 (show ¬ (0 : Nat) = tq_rt by decide)
      replace hg : bk_Tn_below_0 [x1, x2] [] σ = some q9 := hg
      unfold bk_Tn_below_0 at hg
      refine lv_aload_n hx hb d_Tn_below_0 rfl (lv_at hl 0 rfl) ?_
      refine va_get (D := (dC, dI)) (ci := 0) (v := .ref (ad 1)) (C := "TableauNodes") (T := F_Tn) (N := 4) hx hb hts in_Tn hown hK hP 0 rfl rfl 0 (by decide) (hts _ tw_220) (fun _ h9 => h9) rfl d_Tn_below_1 ?_
      refine lv_iload_n hx hb d_Tn_below_4 rfl (lv_at hl 1 rfl) ?_
      obtain ⟨r2, σ3, f1, hg⟩ := tq_ob_s hg
      refine tq_aI (va_runV (As := [.int x1]) (rest := []) ⟨hx, hb, hml, hown, hts⟩ (c_Co_isThere l dC dI cI cL cZ ad tt H.size σ x1  r2 σ3 f1) (cwV 1 hts (tq_gV tw_245 tw_246 tw_247 tw_2 tw_248) rfl rfl rfl (by decide +kernel) ⟨Nat.le_of_ble_eq_true rfl, Nat.le_of_ble_eq_true rfl⟩) ⟨tq_bl, va_recv hK hP (ci := 1) (q0 := 1) rfl rfl, (tq_pr hP hK hD hS hA hZ hN)⟩ rfl rfl hl.1 rfl (lv_room (Nat.le_of_ble_eq_true rfl)) d_Tn_below_5 ⟨Nat.zero_le _, Nat.zero_le _⟩) hD hS hA (fun H locs hP hD hS => ?_)
      refine lv_if_eq (tgt := 22) hx hb d_Tn_below_8 (by decide) (fun c4 => ?_) (fun c4 => ?_)
      · replace hg := tq_if_t c4 hg
        refine lv_iconst (v := (-1)) hx hb d_Tn_below_22 (by decide) ?_
        exact W.iret (v := (-1)) hx hb hr (fun t ht hW => ⟨⟨(-1), σ3, rfl, tq_grI hg hn, by rw [ht]; exact hP, va_K.moved hW.alike hK, hD⟩, hS.F ht⟩) hS.2.2 d_Tn_below_23
      · replace hg := tq_if_f c4 hg
        refine lv_aload_n hx hb d_Tn_below_11 rfl (lv_at hl 0 rfl) ?_
        refine va_get (D := (dC, dI)) (ci := 0) (v := .ref (ad 1)) (C := "TableauNodes") (T := F_Tn) (N := 4) hx hb hts in_Tn hown hK hP 0 rfl rfl 0 (by decide) (hts _ tw_220) (fun _ h9 => h9) rfl d_Tn_below_12 ?_
        refine lv_iload_n hx hb d_Tn_below_15 rfl (lv_at hl 2 rfl) ?_
        obtain ⟨r6, σ7, f5, hg⟩ := tq_ob_s hg
        refine tq_aI (va_runV (As := [.int x2]) (rest := []) ⟨hx, hb, hml, hown, hts⟩ (c_Co_isThere l dC dI cI cL cZ ad tt H.size σ3 x2  r6 σ7 f5) (cwV 1 hts (tq_gV tw_245 tw_246 tw_247 tw_2 tw_248) rfl rfl rfl (by decide +kernel) ⟨Nat.le_of_ble_eq_true rfl, Nat.le_of_ble_eq_true rfl⟩) ⟨tq_bl, va_recv hK hP (ci := 1) (q0 := 1) rfl rfl, (tq_pr hP hK hD hS hA hZ hN)⟩ rfl rfl hl.1 rfl (lv_room (Nat.le_of_ble_eq_true rfl)) d_Tn_below_16 ⟨Nat.zero_le _, Nat.zero_le _⟩) hD hS hA (fun H locs hP hD hS => ?_)
        refine lv_if_ne (tgt := 24) hx hb d_Tn_below_19 (by decide) (fun c8 => ?_) (fun c8 => ?_)
        · replace hg := tq_if_t c8 hg
          refine lv_aload_n hx hb d_Tn_below_24 rfl (lv_at hl 0 rfl) ?_
          refine va_get (D := (dC, dI)) (ci := 0) (v := .ref (ad 3)) (C := "TableauNodes") (T := F_Tn) (N := 4) hx hb hts in_Tn hown hK hP 0 rfl rfl 2 (by decide) (hts _ tw_222) (fun _ h9 => h9) rfl d_Tn_below_25 ?_
          obtain ⟨⟨⟩, σ11, f9, hg⟩ := tq_ob_s hg
          refine tq_aV (va_runV (As := []) (rest := []) ⟨hx, hb, hml, hown, hts⟩ (c_Go_refresh l dC dI cI cL cZ ad tt H.size σ7    σ11 f9) (cwV 0 hts (tq_gV tw_311 tw_312 tw_313 tw_4 tw_314) rfl rfl rfl (by decide +kernel) ⟨Nat.le_of_ble_eq_true rfl, Nat.le_of_ble_eq_true rfl⟩) ⟨tq_bl, va_recv hK hP (ci := 3) (q0 := 3) rfl rfl, (tq_pr hP hK hD hS hA hZ hN)⟩ rfl rfl hl.1 rfl (lv_room (Nat.le_of_ble_eq_true rfl)) d_Tn_below_28 ⟨Nat.zero_le _, Nat.zero_le _⟩) hD hS hA (fun H locs hP hD hS => ?_)
          refine lv_aload_n hx hb d_Tn_below_31 rfl (lv_at hl 0 rfl) ?_
          refine va_get (D := (dC, dI)) (ci := 0) (v := .ref (ad 3)) (C := "TableauNodes") (T := F_Tn) (N := 4) hx hb hts in_Tn hown hK hP 0 rfl rfl 2 (by decide) (hts _ tw_222) (fun _ h9 => h9) rfl d_Tn_below_32 ?_
          refine lv_iload_n hx hb d_Tn_below_35 rfl (lv_at hl 1 rfl) ?_
          refine lv_iload_n hx hb d_Tn_below_36 rfl (lv_at hl 2 rfl) ?_
          obtain ⟨r13, σ14, f12, hg⟩ := tq_ob_s hg
          refine tq_aI (va_runV (As := [.int x1, .int x2]) (rest := []) ⟨hx, hb, hml, hown, hts⟩ (c_Go_eachIs l dC dI cI cL cZ ad tt H.size σ11 x1 x2  r13 σ14 f12) (cwV 2 hts (tq_gV tw_410 tw_411 tw_412 tw_4 tw_413) rfl rfl rfl (by decide +kernel) ⟨Nat.le_of_ble_eq_true rfl, Nat.le_of_ble_eq_true rfl⟩) ⟨tq_bl, va_recv hK hP (ci := 3) (q0 := 3) rfl rfl, (tq_pr hP hK hD hS hA hZ hN)⟩ rfl rfl hl.1 rfl (lv_room (Nat.le_of_ble_eq_true rfl)) d_Tn_below_37 ⟨Nat.zero_le _, Nat.zero_le _⟩) hD hS hA (fun H locs hP hD hS => ?_)
          refine lv_if_eq (tgt := 47) hx hb d_Tn_below_40 (by decide) (fun c15 => ?_) (fun c15 => ?_)
          · replace hg := tq_if_t c15 hg
            refine lv_iconst (v := 0) hx hb d_Tn_below_47 (by decide) ?_
            exact W.iret (v := 0) hx hb hr (fun t ht hW => ⟨⟨0, σ14, rfl, tq_grI hg hn, by rw [ht]; exact hP, va_K.moved hW.alike hK, hD⟩, hS.F ht⟩) hS.2.2 d_Tn_below_48
          · replace hg := tq_if_f c15 hg
            refine lv_iconst (v := 1) hx hb d_Tn_below_43 (by decide) ?_
            refine lv_goto (tgt := 48) hx hb d_Tn_below_44 (by decide) ?_
            exact W.iret (v := 1) hx hb hr (fun t ht hW => ⟨⟨1, σ14, rfl, tq_grI hg hn, by rw [ht]; exact hP, va_K.moved hW.alike hK, hD⟩, hS.F ht⟩) hS.2.2 d_Tn_below_48
        · replace hg := tq_if_n c8 hg
          refine lv_iconst (v := (-1)) hx hb d_Tn_below_22 (by decide) ?_
          exact W.iret (v := (-1)) hx hb hr (fun t ht hW => ⟨⟨(-1), σ7, rfl, tq_grI hg hn, by rw [ht]; exact hP, va_K.moved hW.alike hK, hD⟩, hS.F ht⟩) hS.2.2 d_Tn_below_23
  exact (key n0) hP hD hS hl h0
noncomputable def bk_Tn_types_0 : List Int32 → List Int64 → tq_S → Option tq_C
  | [], [], σ => tq_ob (tq_fV st_Go_refresh (0, [], [], σ)) (fun _ σ3 => tq_ob (tq_fI st_Go_size (0, [], [], σ3)) (fun r5 σ6 => some (tq_rt, [r5], [], σ6)))
  | _, _, _ => none
noncomputable def st_Tn_types (c : tq_C) : Option tq_C := if c.1 = 0 then bk_Tn_types_0 c.2.1 c.2.2.1 c.2.2.2 else none
set_option maxHeartbeats 40000000 in
set_option maxRecDepth 100000 in
theorem c_Tn_types (l : Launch) (dC : Nat → ClassId) (dI : Nat → Nat → Nat) (cI cL cZ : ClassId) (ad : Nat → Nat) (tt : Nat) (sz : Nat) (σ : tq_S) (r : Int32) (σ' : tq_S) (hf : tq_fI st_Tn_types (0, [], [], σ) = some (r, σ')) : Met l y_Tn_types w_Tn_types ({ frames := 6, cells := 0, slots := 0, locals := 136 } : Room) (va_Pc [.ref (ad 0)] (tq_B dC dI cI cL cZ tt (wo cI cL cZ ad σ) sz)) (va_Qi (fun (r' : Int32) (u : tq_S) => r' = r ∧ u = σ') (tq_E dC dI cI cL cZ (wo cI cL cZ ad) (va_A (wo cI cL cZ ad σ) sz)) (va_A (wo cI cL cZ ad σ) sz)) 0 0 (va_A (wo cI cL cZ ad σ) sz) := by
  obtain ⟨n0, h0⟩ := tq_fI_to hf
  refine Met.ofW (cc := prog_1_method_12_code) (maxL := 1) (ret := (some .int)) (by decide) rfl ?_
  intro p e s m args below meth c s₁ B hml hv
  obtain ⟨rfl, hsz, hP, hK, hD0, hZ, hN⟩ := hv
  have hx := B.exec
  have hb := B.bytes
  have hr := B.returns
  have hts : ∀ w ∈ tq_T, w.before _ s = true := fun w h => atoms_spec (ws := w_Tn_types) B.pre w (List.mem_cons_of_mem _ h)
  have hown : s.vm.findClass "TableauNodes" = some m.cls := findClass_of_methodNamed B.named
  have hlocks := B.notSynchronized
  subst hsz
  have hD := hD0.self (sz := s.heap.size)
  have hS : va_S (va_A (wo cI cL cZ ad σ) s.heap.size) s.heap s.heap [] := va_S.rf
  have hA : ∀ q : Nat, s.heap.size ≤ q → va_A (wo cI cL cZ ad σ) s.heap.size q := fun q h => Or.inr h
  generalize va_A (wo cI cL cZ ad σ) s.heap.size = A at hD hS hA hZ ⊢
  have hl := lv_entry ([.ref (ad 0)]) (n := 1) (Nat.le_of_ble_eq_true rfl)
  rw [lg_entry_eq]
  generalize (lg_sl ([.ref (ad 0)]) ++ List.replicate (1 - (lg_sl ([.ref (ad 0)])).length) Slot.unset).toArray = ls at hl ⊢
  have hl : lv_has ls 1 [(0, .ref (ad 0))] := hl
  have key : ∀ n : Nat, (∀ {σ : tq_S} {H : Heap} {locs : List Loc} {ls : Array Slot}, va_P (dC, dI) tq_cl (wo cI cL cZ ad σ) H → va_D A (wo cI cL cZ ad σ) → va_S A s.heap H locs → lv_has ls 1 [(0, .ref (ad 0))] → tq_go st_Tn_types n (0, [], [], σ) = some (tq_rt, [r], [], σ') → W p l e (headSpec w_Tn_types ({ frames := 6, cells := 0, slots := 0, locals := 136 } : Room)).room s m ([.ref (ad 0)] : List Value).toArray below meth c H locs 0 0 (MQ below (va_Qi (fun (r' : Int32) (u : tq_S) => r' = r ∧ u = σ') (tq_E dC dI cI cL cZ (wo cI cL cZ ad) A) A) ([.ref (ad 0)] : List Value).toArray s 0 0 A) (F0 m 0 ls [])) := by
    intro n
    induction n with
    | zero => exact fun _ _ _ _ h => by cases h
    | succ n ih =>
      intro  σ H locs ls hP hD hS hl h9
      obtain ⟨q9, hg, hn⟩ := tq_go_s h9 (show ¬ (0 : Nat) = tq_rt by decide)
      replace hg : bk_Tn_types_0 [] [] σ = some q9 := hg
      unfold bk_Tn_types_0 at hg
      refine lv_aload_n hx hb d_Tn_types_0 rfl (lv_at hl 0 rfl) ?_
      refine va_get (D := (dC, dI)) (ci := 0) (v := .ref (ad 3)) (C := "TableauNodes") (T := F_Tn) (N := 4) hx hb hts in_Tn hown hK hP 0 rfl rfl 2 (by decide) (hts _ tw_222) (fun _ h9 => h9) rfl d_Tn_types_1 ?_
      obtain ⟨⟨⟩, σ3, f1, hg⟩ := tq_ob_s hg
      refine tq_aV (va_runV (As := []) (rest := []) ⟨hx, hb, hml, hown, hts⟩ (c_Go_refresh l dC dI cI cL cZ ad tt H.size σ    σ3 f1) (cwV 0 hts (tq_gV tw_311 tw_312 tw_313 tw_4 tw_314) rfl rfl rfl (by decide +kernel) ⟨Nat.le_of_ble_eq_true rfl, Nat.le_of_ble_eq_true rfl⟩) ⟨tq_bl, va_recv hK hP (ci := 3) (q0 := 3) rfl rfl, (tq_pr hP hK hD hS hA hZ hN)⟩ rfl rfl hl.1 rfl (lv_room (Nat.le_of_ble_eq_true rfl)) d_Tn_types_4 ⟨Nat.zero_le _, Nat.zero_le _⟩) hD hS hA (fun H locs hP hD hS => ?_)
      refine lv_aload_n hx hb d_Tn_types_7 rfl (lv_at hl 0 rfl) ?_
      refine va_get (D := (dC, dI)) (ci := 0) (v := .ref (ad 3)) (C := "TableauNodes") (T := F_Tn) (N := 4) hx hb hts in_Tn hown hK hP 0 rfl rfl 2 (by decide) (hts _ tw_222) (fun _ h9 => h9) rfl d_Tn_types_8 ?_
      obtain ⟨r5, σ6, f4, hg⟩ := tq_ob_s hg
      refine tq_aI (va_runV (As := []) (rest := []) ⟨hx, hb, hml, hown, hts⟩ (c_Go_size l dC dI cI cL cZ ad tt H.size σ3   r5 σ6 f4) (cwV 0 hts (tq_gV tw_418 tw_419 tw_420 tw_4 tw_421) rfl rfl rfl (by decide +kernel) ⟨Nat.le_of_ble_eq_true rfl, Nat.le_of_ble_eq_true rfl⟩) ⟨tq_bl, va_recv hK hP (ci := 3) (q0 := 3) rfl rfl, (tq_pr hP hK hD hS hA hZ hN)⟩ rfl rfl hl.1 rfl (lv_room (Nat.le_of_ble_eq_true rfl)) d_Tn_types_11 ⟨Nat.zero_le _, Nat.zero_le _⟩) hD hS hA (fun H locs hP hD hS => ?_)
      exact W.iret (v := r5) hx hb hr (fun t ht hW => ⟨⟨r5, σ6, rfl, tq_grI hg hn, by rw [ht]; exact hP, va_K.moved hW.alike hK, hD⟩, hS.F ht⟩) hS.2.2 d_Tn_types_14
  exact (key n0) hP hD hS hl h0
noncomputable def bk_Tn_rounds_0 : List Int32 → List Int64 → tq_S → Option tq_C
  | [], [], σ => tq_ob (tq_fV st_Go_refresh (0, [], [], σ)) (fun _ σ3 => tq_ob (tq_fI st_Go_roundCount (0, [], [], σ3)) (fun r5 σ6 => some (tq_rt, [r5], [], σ6)))
  | _, _, _ => none
noncomputable def st_Tn_rounds (c : tq_C) : Option tq_C := if c.1 = 0 then bk_Tn_rounds_0 c.2.1 c.2.2.1 c.2.2.2 else none
set_option maxHeartbeats 40000000 in
set_option maxRecDepth 100000 in
theorem c_Tn_rounds (l : Launch) (dC : Nat → ClassId) (dI : Nat → Nat → Nat) (cI cL cZ : ClassId) (ad : Nat → Nat) (tt : Nat) (sz : Nat) (σ : tq_S) (r : Int32) (σ' : tq_S) (hf : tq_fI st_Tn_rounds (0, [], [], σ) = some (r, σ')) : Met l y_Tn_rounds w_Tn_rounds ({ frames := 6, cells := 0, slots := 0, locals := 136 } : Room) (va_Pc [.ref (ad 0)] (tq_B dC dI cI cL cZ tt (wo cI cL cZ ad σ) sz)) (va_Qi (fun (r' : Int32) (u : tq_S) => r' = r ∧ u = σ') (tq_E dC dI cI cL cZ (wo cI cL cZ ad) (va_A (wo cI cL cZ ad σ) sz)) (va_A (wo cI cL cZ ad σ) sz)) 0 0 (va_A (wo cI cL cZ ad σ) sz) := by
  obtain ⟨n0, h0⟩ := tq_fI_to hf
  refine Met.ofW (cc := prog_1_method_13_code) (maxL := 1) (ret := (some .int)) (by decide) rfl ?_
  intro p e s m args below meth c s₁ B hml hv
  obtain ⟨rfl, hsz, hP, hK, hD0, hZ, hN⟩ := hv
  have hx := B.exec
  have hb := B.bytes
  have hr := B.returns
  have hts : ∀ w ∈ tq_T, w.before _ s = true := fun w h => atoms_spec (ws := w_Tn_rounds) B.pre w (List.mem_cons_of_mem _ h)
  have hown : s.vm.findClass "TableauNodes" = some m.cls := findClass_of_methodNamed B.named
  have hlocks := B.notSynchronized
  subst hsz
  have hD := hD0.self (sz := s.heap.size)
  have hS : va_S (va_A (wo cI cL cZ ad σ) s.heap.size) s.heap s.heap [] := va_S.rf
  have hA : ∀ q : Nat, s.heap.size ≤ q → va_A (wo cI cL cZ ad σ) s.heap.size q := fun q h => Or.inr h
  generalize va_A (wo cI cL cZ ad σ) s.heap.size = A at hD hS hA hZ ⊢
  have hl := lv_entry ([.ref (ad 0)]) (n := 1) (Nat.le_of_ble_eq_true rfl)
  rw [lg_entry_eq]
  generalize (lg_sl ([.ref (ad 0)]) ++ List.replicate (1 - (lg_sl ([.ref (ad 0)])).length) Slot.unset).toArray = ls at hl ⊢
  have hl : lv_has ls 1 [(0, .ref (ad 0))] := hl
  have key : ∀ n : Nat, (∀ {σ : tq_S} {H : Heap} {locs : List Loc} {ls : Array Slot}, va_P (dC, dI) tq_cl (wo cI cL cZ ad σ) H → va_D A (wo cI cL cZ ad σ) → va_S A s.heap H locs → lv_has ls 1 [(0, .ref (ad 0))] → tq_go st_Tn_rounds n (0, [], [], σ) = some (tq_rt, [r], [], σ') → W p l e (headSpec w_Tn_rounds ({ frames := 6, cells := 0, slots := 0, locals := 136 } : Room)).room s m ([.ref (ad 0)] : List Value).toArray below meth c H locs 0 0 (MQ below (va_Qi (fun (r' : Int32) (u : tq_S) => r' = r ∧ u = σ') (tq_E dC dI cI cL cZ (wo cI cL cZ ad) A) A) ([.ref (ad 0)] : List Value).toArray s 0 0 A) (F0 m 0 ls [])) := by
    intro n
    induction n with
    | zero => exact fun _ _ _ _ h => by cases h
    | succ n ih =>
      intro  σ H locs ls hP hD hS hl h9
      obtain ⟨q9, hg, hn⟩ := tq_go_s h9 (show ¬ (0 : Nat) = tq_rt by decide)
      replace hg : bk_Tn_rounds_0 [] [] σ = some q9 := hg
      unfold bk_Tn_rounds_0 at hg
      refine lv_aload_n hx hb d_Tn_rounds_0 rfl (lv_at hl 0 rfl) ?_
      refine va_get (D := (dC, dI)) (ci := 0) (v := .ref (ad 3)) (C := "TableauNodes") (T := F_Tn) (N := 4) hx hb hts in_Tn hown hK hP 0 rfl rfl 2 (by decide) (hts _ tw_222) (fun _ h9 => h9) rfl d_Tn_rounds_1 ?_
      obtain ⟨⟨⟩, σ3, f1, hg⟩ := tq_ob_s hg
      refine tq_aV (va_runV (As := []) (rest := []) ⟨hx, hb, hml, hown, hts⟩ (c_Go_refresh l dC dI cI cL cZ ad tt H.size σ    σ3 f1) (cwV 0 hts (tq_gV tw_311 tw_312 tw_313 tw_4 tw_314) rfl rfl rfl (by decide +kernel) ⟨Nat.le_of_ble_eq_true rfl, Nat.le_of_ble_eq_true rfl⟩) ⟨tq_bl, va_recv hK hP (ci := 3) (q0 := 3) rfl rfl, (tq_pr hP hK hD hS hA hZ hN)⟩ rfl rfl hl.1 rfl (lv_room (Nat.le_of_ble_eq_true rfl)) d_Tn_rounds_4 ⟨Nat.zero_le _, Nat.zero_le _⟩) hD hS hA (fun H locs hP hD hS => ?_)
      refine lv_aload_n hx hb d_Tn_rounds_7 rfl (lv_at hl 0 rfl) ?_
      refine va_get (D := (dC, dI)) (ci := 0) (v := .ref (ad 3)) (C := "TableauNodes") (T := F_Tn) (N := 4) hx hb hts in_Tn hown hK hP 0 rfl rfl 2 (by decide) (hts _ tw_222) (fun _ h9 => h9) rfl d_Tn_rounds_8 ?_
      obtain ⟨r5, σ6, f4, hg⟩ := tq_ob_s hg
      refine tq_aI (va_runV (As := []) (rest := []) ⟨hx, hb, hml, hown, hts⟩ (c_Go_roundCount l dC dI cI cL cZ ad tt H.size σ3   r5 σ6 f4) (cwV 0 hts (tq_gV tw_426 tw_427 tw_428 tw_4 tw_429) rfl rfl rfl (by decide +kernel) ⟨Nat.le_of_ble_eq_true rfl, Nat.le_of_ble_eq_true rfl⟩) ⟨tq_bl, va_recv hK hP (ci := 3) (q0 := 3) rfl rfl, (tq_pr hP hK hD hS hA hZ hN)⟩ rfl rfl hl.1 rfl (lv_room (Nat.le_of_ble_eq_true rfl)) d_Tn_rounds_11 ⟨Nat.zero_le _, Nat.zero_le _⟩) hD hS hA (fun H locs hP hD hS => ?_)
      exact W.iret (v := r5) hx hb hr (fun t ht hW => ⟨⟨r5, σ6, rfl, tq_grI hg hn, by rw [ht]; exact hP, va_K.moved hW.alike hK, hD⟩, hS.F ht⟩) hS.2.2 d_Tn_rounds_14
  exact (key n0) hP hD hS hl h0
noncomputable def bk_Tn_depth_0 : List Int32 → List Int64 → tq_S → Option tq_C
  | [x1], [], σ => tq_ob (tq_fI st_Co_typeCount (0, [], [], σ)) (fun r2 σ3 => tq_ob (tq_fI st_Tn_isBelow (0, [x1, r2], [], σ3)) (fun r5 σ6 => if ¬ r5 = 0 then tq_ob (tq_fV st_Go_refresh (0, [], [], σ6)) (fun _ σ10 => tq_ob (tq_fI st_Go_depthOf (0, [x1], [], σ10)) (fun r12 σ13 => some (tq_rt, [r12], [], σ13))) else some (tq_rt, [(-1)], [], σ6)))
  | _, _, _ => none
noncomputable def st_Tn_depth (c : tq_C) : Option tq_C := if c.1 = 0 then bk_Tn_depth_0 c.2.1 c.2.2.1 c.2.2.2 else none
set_option maxHeartbeats 40000000 in
set_option maxRecDepth 100000 in
theorem c_Tn_depth (l : Launch) (dC : Nat → ClassId) (dI : Nat → Nat → Nat) (cI cL cZ : ClassId) (ad : Nat → Nat) (tt : Nat) (sz : Nat) (σ : tq_S) (a1 : Int32) (r : Int32) (σ' : tq_S) (hf : tq_fI st_Tn_depth (0, [a1], [], σ) = some (r, σ')) : Met l y_Tn_depth w_Tn_depth ({ frames := 6, cells := 0, slots := 0, locals := 136 } : Room) (va_Pc [.ref (ad 0), .int a1] (tq_B dC dI cI cL cZ tt (wo cI cL cZ ad σ) sz)) (va_Qi (fun (r' : Int32) (u : tq_S) => r' = r ∧ u = σ') (tq_E dC dI cI cL cZ (wo cI cL cZ ad) (va_A (wo cI cL cZ ad σ) sz)) (va_A (wo cI cL cZ ad σ) sz)) 0 0 (va_A (wo cI cL cZ ad σ) sz) := by
  obtain ⟨n0, h0⟩ := tq_fI_to hf
  refine Met.ofW (cc := prog_1_method_14_code) (maxL := 2) (ret := (some .int)) (by decide) rfl ?_
  intro p e s m args below meth c s₁ B hml hv
  obtain ⟨rfl, hsz, hP, hK, hD0, hZ, hN⟩ := hv
  have hx := B.exec
  have hb := B.bytes
  have hr := B.returns
  have hts : ∀ w ∈ tq_T, w.before _ s = true := fun w h => atoms_spec (ws := w_Tn_depth) B.pre w (List.mem_cons_of_mem _ h)
  have hown : s.vm.findClass "TableauNodes" = some m.cls := findClass_of_methodNamed B.named
  have hlocks := B.notSynchronized
  subst hsz
  have hD := hD0.self (sz := s.heap.size)
  have hS : va_S (va_A (wo cI cL cZ ad σ) s.heap.size) s.heap s.heap [] := va_S.rf
  have hA : ∀ q : Nat, s.heap.size ≤ q → va_A (wo cI cL cZ ad σ) s.heap.size q := fun q h => Or.inr h
  generalize va_A (wo cI cL cZ ad σ) s.heap.size = A at hD hS hA hZ ⊢
  have hl := lv_entry ([.ref (ad 0), .int a1]) (n := 2) (Nat.le_of_ble_eq_true rfl)
  rw [lg_entry_eq]
  generalize (lg_sl ([.ref (ad 0), .int a1]) ++ List.replicate (2 - (lg_sl ([.ref (ad 0), .int a1])).length) Slot.unset).toArray = ls at hl ⊢
  have hl : lv_has ls 2 [(0, .ref (ad 0)), (1, .int a1)] := hl
  have key : ∀ n : Nat, (∀ {x1 : Int32} {σ : tq_S} {H : Heap} {locs : List Loc} {ls : Array Slot}, va_P (dC, dI) tq_cl (wo cI cL cZ ad σ) H → va_D A (wo cI cL cZ ad σ) → va_S A s.heap H locs → lv_has ls 2 [(0, .ref (ad 0)), (1, .int x1)] → tq_go st_Tn_depth n (0, [x1], [], σ) = some (tq_rt, [r], [], σ') → W p l e (headSpec w_Tn_depth ({ frames := 6, cells := 0, slots := 0, locals := 136 } : Room)).room s m ([.ref (ad 0), .int a1] : List Value).toArray below meth c H locs 0 0 (MQ below (va_Qi (fun (r' : Int32) (u : tq_S) => r' = r ∧ u = σ') (tq_E dC dI cI cL cZ (wo cI cL cZ ad) A) A) ([.ref (ad 0), .int a1] : List Value).toArray s 0 0 A) (F0 m 0 ls [])) := by
    intro n
    induction n with
    | zero => exact fun _ _ _ _ h => by cases h
    | succ n ih =>
      intro x1 σ H locs ls hP hD hS hl h9
      obtain ⟨q9, hg, hn⟩ := tq_go_s h9 (show ¬ (0 : Nat) = tq_rt by decide)
      replace hg : bk_Tn_depth_0 [x1] [] σ = some q9 := hg
      unfold bk_Tn_depth_0 at hg
      refine lv_iload_n hx hb d_Tn_depth_0 rfl (lv_at hl 1 rfl) ?_
      refine lv_aload_n hx hb d_Tn_depth_1 rfl (lv_at hl 0 rfl) ?_
      refine va_get (D := (dC, dI)) (ci := 0) (v := .ref (ad 1)) (C := "TableauNodes") (T := F_Tn) (N := 4) hx hb hts in_Tn hown hK hP 0 rfl rfl 0 (by decide) (hts _ tw_220) (fun _ h9 => h9) rfl d_Tn_depth_2 ?_
      obtain ⟨r2, σ3, f1, hg⟩ := tq_ob_s hg
      refine tq_aI (va_runV (As := []) (rest := [.int x1]) ⟨hx, hb, hml, hown, hts⟩ (c_Co_typeCount l dC dI cI cL cZ ad tt H.size σ   r2 σ3 f1) (cwV 0 hts (tq_gV tw_434 tw_343 tw_344 tw_2 tw_345) rfl rfl rfl (by decide +kernel) ⟨Nat.le_of_ble_eq_true rfl, Nat.le_of_ble_eq_true rfl⟩) ⟨tq_bl, va_recv hK hP (ci := 1) (q0 := 1) rfl rfl, (tq_pr hP hK hD hS hA hZ hN)⟩ rfl rfl hl.1 rfl (lv_room (Nat.le_of_ble_eq_true rfl)) d_Tn_depth_5 ⟨Nat.zero_le _, Nat.zero_le _⟩) hD hS hA (fun H locs hP hD hS => ?_)
      obtain ⟨r5, σ6, f4, hg⟩ := tq_ob_s hg
      refine tq_aI (va_runS (As := [.int x1, .int r2]) (rest := []) ⟨hx, hb, hml, hown, hts⟩ (c_Tn_isBelow l dC dI cI cL cZ ad tt H.size σ3 x1 r2  r5 σ6 f4) (va_cwS 2 hts (tq_gS tw_237 tw_238 tw_1 tw_239) rfl rfl rfl (by decide +kernel) ⟨Nat.le_of_ble_eq_true rfl, Nat.le_of_ble_eq_true rfl⟩) ⟨tq_bl, (tq_pr hP hK hD hS hA hZ hN)⟩ rfl rfl hl.1 rfl (lv_room (Nat.le_of_ble_eq_true rfl)) d_Tn_depth_8 ⟨Nat.zero_le _, Nat.zero_le _⟩) hD hS hA (fun H locs hP hD hS => ?_)
      refine lv_if_ne (tgt := 16) hx hb d_Tn_depth_11 (by decide) (fun c7 => ?_) (fun c7 => ?_)
      · replace hg := tq_if_t c7 hg
        refine lv_aload_n hx hb d_Tn_depth_16 rfl (lv_at hl 0 rfl) ?_
        refine va_get (D := (dC, dI)) (ci := 0) (v := .ref (ad 3)) (C := "TableauNodes") (T := F_Tn) (N := 4) hx hb hts in_Tn hown hK hP 0 rfl rfl 2 (by decide) (hts _ tw_222) (fun _ h9 => h9) rfl d_Tn_depth_17 ?_
        obtain ⟨⟨⟩, σ10, f8, hg⟩ := tq_ob_s hg
        refine tq_aV (va_runV (As := []) (rest := []) ⟨hx, hb, hml, hown, hts⟩ (c_Go_refresh l dC dI cI cL cZ ad tt H.size σ6    σ10 f8) (cwV 0 hts (tq_gV tw_311 tw_312 tw_313 tw_4 tw_314) rfl rfl rfl (by decide +kernel) ⟨Nat.le_of_ble_eq_true rfl, Nat.le_of_ble_eq_true rfl⟩) ⟨tq_bl, va_recv hK hP (ci := 3) (q0 := 3) rfl rfl, (tq_pr hP hK hD hS hA hZ hN)⟩ rfl rfl hl.1 rfl (lv_room (Nat.le_of_ble_eq_true rfl)) d_Tn_depth_20 ⟨Nat.zero_le _, Nat.zero_le _⟩) hD hS hA (fun H locs hP hD hS => ?_)
        refine lv_aload_n hx hb d_Tn_depth_23 rfl (lv_at hl 0 rfl) ?_
        refine va_get (D := (dC, dI)) (ci := 0) (v := .ref (ad 3)) (C := "TableauNodes") (T := F_Tn) (N := 4) hx hb hts in_Tn hown hK hP 0 rfl rfl 2 (by decide) (hts _ tw_222) (fun _ h9 => h9) rfl d_Tn_depth_24 ?_
        refine lv_iload_n hx hb d_Tn_depth_27 rfl (lv_at hl 1 rfl) ?_
        obtain ⟨r12, σ13, f11, hg⟩ := tq_ob_s hg
        refine tq_aI (va_runV (As := [.int x1]) (rest := []) ⟨hx, hb, hml, hown, hts⟩ (c_Go_depthOf l dC dI cI cL cZ ad tt H.size σ10 x1  r12 σ13 f11) (cwV 1 hts (tq_gV tw_435 tw_436 tw_437 tw_4 tw_438) rfl rfl rfl (by decide +kernel) ⟨Nat.le_of_ble_eq_true rfl, Nat.le_of_ble_eq_true rfl⟩) ⟨tq_bl, va_recv hK hP (ci := 3) (q0 := 3) rfl rfl, (tq_pr hP hK hD hS hA hZ hN)⟩ rfl rfl hl.1 rfl (lv_room (Nat.le_of_ble_eq_true rfl)) d_Tn_depth_28 ⟨Nat.zero_le _, Nat.zero_le _⟩) hD hS hA (fun H locs hP hD hS => ?_)
        exact W.iret (v := r12) hx hb hr (fun t ht hW => ⟨⟨r12, σ13, rfl, tq_grI hg hn, by rw [ht]; exact hP, va_K.moved hW.alike hK, hD⟩, hS.F ht⟩) hS.2.2 d_Tn_depth_31
      · replace hg := tq_if_n c7 hg
        refine lv_iconst (v := (-1)) hx hb d_Tn_depth_14 (by decide) ?_
        exact W.iret (v := (-1)) hx hb hr (fun t ht hW => ⟨⟨(-1), σ6, rfl, tq_grI hg hn, by rw [ht]; exact hP, va_K.moved hW.alike hK, hD⟩, hS.F ht⟩) hS.2.2 d_Tn_depth_15
  exact (key n0) hP hD hS hl h0
noncomputable def bk_Tn_individual_0 : List Int32 → List Int64 → tq_S → Option tq_C
  | [x1, x2], [], σ => tq_ob (tq_fI st_Tn_isBelow (0, [x1, 5], [], σ)) (fun r2 σ3 => if r2 = 0 then some (tq_rt, [(-1)], [], σ3) else tq_ob (tq_fI st_Co_isThere (0, [x2], [], σ3)) (fun r6 σ7 => if r6 = 0 then some (tq_rt, [(-1)], [], σ7) else tq_ob (tq_fI st_Th_sayIs (0, [x1, x2], [], σ7)) (fun r10 σ11 => some (tq_rt, [r10], [], σ11))))
  | _, _, _ => none
noncomputable def st_Tn_individual (c : tq_C) : Option tq_C := if c.1 = 0 then bk_Tn_individual_0 c.2.1 c.2.2.1 c.2.2.2 else none
set_option maxHeartbeats 40000000 in
set_option maxRecDepth 100000 in
theorem c_Tn_individual (l : Launch) (dC : Nat → ClassId) (dI : Nat → Nat → Nat) (cI cL cZ : ClassId) (ad : Nat → Nat) (tt : Nat) (sz : Nat) (σ : tq_S) (a1 : Int32) (a2 : Int32) (r : Int32) (σ' : tq_S) (hf : tq_fI st_Tn_individual (0, [a1, a2], [], σ) = some (r, σ')) : Met l y_Tn_individual w_Tn_individual ({ frames := 2, cells := 0, slots := 0, locals := 46 } : Room) (va_Pc [.ref (ad 0), .int a1, .int a2] (tq_B dC dI cI cL cZ tt (wo cI cL cZ ad σ) sz)) (va_Qi (fun (r' : Int32) (u : tq_S) => r' = r ∧ u = σ') (tq_E dC dI cI cL cZ (wo cI cL cZ ad) (va_A (wo cI cL cZ ad σ) sz)) (va_A (wo cI cL cZ ad σ) sz)) 0 0 (va_A (wo cI cL cZ ad σ) sz) := by
  obtain ⟨n0, h0⟩ := tq_fI_to hf
  refine Met.ofW (cc := prog_1_method_15_code) (maxL := 3) (ret := (some .int)) (by decide) rfl ?_
  intro p e s m args below meth c s₁ B hml hv
  obtain ⟨rfl, hsz, hP, hK, hD0, hZ, hN⟩ := hv
  have hx := B.exec
  have hb := B.bytes
  have hr := B.returns
  have hts : ∀ w ∈ tq_T, w.before _ s = true := fun w h => atoms_spec (ws := w_Tn_individual) B.pre w (List.mem_cons_of_mem _ h)
  have hown : s.vm.findClass "TableauNodes" = some m.cls := findClass_of_methodNamed B.named
  have hlocks := B.notSynchronized
  subst hsz
  have hD := hD0.self (sz := s.heap.size)
  have hS : va_S (va_A (wo cI cL cZ ad σ) s.heap.size) s.heap s.heap [] := va_S.rf
  have hA : ∀ q : Nat, s.heap.size ≤ q → va_A (wo cI cL cZ ad σ) s.heap.size q := fun q h => Or.inr h
  generalize va_A (wo cI cL cZ ad σ) s.heap.size = A at hD hS hA hZ ⊢
  have hl := lv_entry ([.ref (ad 0), .int a1, .int a2]) (n := 3) (Nat.le_of_ble_eq_true rfl)
  rw [lg_entry_eq]
  generalize (lg_sl ([.ref (ad 0), .int a1, .int a2]) ++ List.replicate (3 - (lg_sl ([.ref (ad 0), .int a1, .int a2])).length) Slot.unset).toArray = ls at hl ⊢
  have hl : lv_has ls 3 [(0, .ref (ad 0)), (1, .int a1), (2, .int a2)] := hl
  have key : ∀ n : Nat, (∀ {x1 x2 : Int32} {σ : tq_S} {H : Heap} {locs : List Loc} {ls : Array Slot}, va_P (dC, dI) tq_cl (wo cI cL cZ ad σ) H → va_D A (wo cI cL cZ ad σ) → va_S A s.heap H locs → lv_has ls 3 [(0, .ref (ad 0)), (1, .int x1), (2, .int x2)] → tq_go st_Tn_individual n (0, [x1, x2], [], σ) = some (tq_rt, [r], [], σ') → W p l e (headSpec w_Tn_individual ({ frames := 2, cells := 0, slots := 0, locals := 46 } : Room)).room s m ([.ref (ad 0), .int a1, .int a2] : List Value).toArray below meth c H locs 0 0 (MQ below (va_Qi (fun (r' : Int32) (u : tq_S) => r' = r ∧ u = σ') (tq_E dC dI cI cL cZ (wo cI cL cZ ad) A) A) ([.ref (ad 0), .int a1, .int a2] : List Value).toArray s 0 0 A) (F0 m 0 ls [])) := by
    intro n
    induction n with
    | zero => exact fun _ _ _ _ h => by cases h
    | succ n ih =>
      intro x1 x2 σ H locs ls hP hD hS hl h9
      obtain ⟨q9, hg, hn⟩ := tq_go_s h9 (show ¬ (0 : Nat) = tq_rt by decide)
      replace hg : bk_Tn_individual_0 [x1, x2] [] σ = some q9 := hg
      unfold bk_Tn_individual_0 at hg
      refine lv_iload_n hx hb d_Tn_individual_0 rfl (lv_at hl 1 rfl) ?_
      refine lv_iconst (v := 5) hx hb d_Tn_individual_1 (by decide) ?_
      obtain ⟨r2, σ3, f1, hg⟩ := tq_ob_s hg
      refine tq_aI (va_runS (As := [.int x1, .int 5]) (rest := []) ⟨hx, hb, hml, hown, hts⟩ (c_Tn_isBelow l dC dI cI cL cZ ad tt H.size σ x1 5  r2 σ3 f1) (va_cwS 2 hts (tq_gS tw_237 tw_238 tw_1 tw_239) rfl rfl rfl (by decide +kernel) ⟨Nat.le_of_ble_eq_true rfl, Nat.le_of_ble_eq_true rfl⟩) ⟨tq_bl, (tq_pr hP hK hD hS hA hZ hN)⟩ rfl rfl hl.1 rfl (lv_room (Nat.le_of_ble_eq_true rfl)) d_Tn_individual_2 ⟨Nat.zero_le _, Nat.zero_le _⟩) hD hS hA (fun H locs hP hD hS => ?_)
      refine lv_if_eq (tgt := 31) hx hb d_Tn_individual_5 (by decide) (fun c4 => ?_) (fun c4 => ?_)
      · replace hg := tq_if_t c4 hg
        refine lv_iconst (v := (-1)) hx hb d_Tn_individual_31 (by decide) ?_
        exact W.iret (v := (-1)) hx hb hr (fun t ht hW => ⟨⟨(-1), σ3, rfl, tq_grI hg hn, by rw [ht]; exact hP, va_K.moved hW.alike hK, hD⟩, hS.F ht⟩) hS.2.2 d_Tn_individual_32
      · replace hg := tq_if_f c4 hg
        refine lv_aload_n hx hb d_Tn_individual_8 rfl (lv_at hl 0 rfl) ?_
        refine va_get (D := (dC, dI)) (ci := 0) (v := .ref (ad 1)) (C := "TableauNodes") (T := F_Tn) (N := 4) hx hb hts in_Tn hown hK hP 0 rfl rfl 0 (by decide) (hts _ tw_220) (fun _ h9 => h9) rfl d_Tn_individual_9 ?_
        refine lv_iload_n hx hb d_Tn_individual_12 rfl (lv_at hl 2 rfl) ?_
        obtain ⟨r6, σ7, f5, hg⟩ := tq_ob_s hg
        refine tq_aI (va_runV (As := [.int x2]) (rest := []) ⟨hx, hb, hml, hown, hts⟩ (c_Co_isThere l dC dI cI cL cZ ad tt H.size σ3 x2  r6 σ7 f5) (cwV 1 hts (tq_gV tw_245 tw_246 tw_247 tw_2 tw_248) rfl rfl rfl (by decide +kernel) ⟨Nat.le_of_ble_eq_true rfl, Nat.le_of_ble_eq_true rfl⟩) ⟨tq_bl, va_recv hK hP (ci := 1) (q0 := 1) rfl rfl, (tq_pr hP hK hD hS hA hZ hN)⟩ rfl rfl hl.1 rfl (lv_room (Nat.le_of_ble_eq_true rfl)) d_Tn_individual_13 ⟨Nat.zero_le _, Nat.zero_le _⟩) hD hS hA (fun H locs hP hD hS => ?_)
        refine lv_if_eq (tgt := 31) hx hb d_Tn_individual_16 (by decide) (fun c8 => ?_) (fun c8 => ?_)
        · replace hg := tq_if_t c8 hg
          refine lv_iconst (v := (-1)) hx hb d_Tn_individual_31 (by decide) ?_
          exact W.iret (v := (-1)) hx hb hr (fun t ht hW => ⟨⟨(-1), σ7, rfl, tq_grI hg hn, by rw [ht]; exact hP, va_K.moved hW.alike hK, hD⟩, hS.F ht⟩) hS.2.2 d_Tn_individual_32
        · replace hg := tq_if_f c8 hg
          refine lv_aload_n hx hb d_Tn_individual_19 rfl (lv_at hl 0 rfl) ?_
          refine va_get (D := (dC, dI)) (ci := 0) (v := .ref (ad 4)) (C := "TableauNodes") (T := F_Tn) (N := 4) hx hb hts in_Tn hown hK hP 0 rfl rfl 3 (by decide) (hts _ tw_223) (fun _ h9 => h9) rfl d_Tn_individual_20 ?_
          refine lv_iload_n hx hb d_Tn_individual_23 rfl (lv_at hl 1 rfl) ?_
          refine lv_iload_n hx hb d_Tn_individual_24 rfl (lv_at hl 2 rfl) ?_
          obtain ⟨r10, σ11, f9, hg⟩ := tq_ob_s hg
          refine tq_aI (va_runV (As := [.int x1, .int x2]) (rest := []) ⟨hx, hb, hml, hown, hts⟩ (c_Th_sayIs l dC dI cI cL cZ ad tt H.size σ7 x1 x2  r10 σ11 f9) (cwV 2 hts (tq_gV tw_444 tw_445 tw_446 tw_5 tw_447) rfl rfl rfl (by decide +kernel) ⟨Nat.le_of_ble_eq_true rfl, Nat.le_of_ble_eq_true rfl⟩) ⟨tq_bl, va_recv hK hP (ci := 4) (q0 := 4) rfl rfl, (tq_pr hP hK hD hS hA hZ hN)⟩ rfl rfl hl.1 rfl (lv_room (Nat.le_of_ble_eq_true rfl)) d_Tn_individual_25 ⟨Nat.zero_le _, Nat.zero_le _⟩) hD hS hA (fun H locs hP hD hS => ?_)
          refine lv_goto (tgt := 32) hx hb d_Tn_individual_28 (by decide) ?_
          exact W.iret (v := r10) hx hb hr (fun t ht hW => ⟨⟨r10, σ11, rfl, tq_grI hg hn, by rw [ht]; exact hP, va_K.moved hW.alike hK, hD⟩, hS.F ht⟩) hS.2.2 d_Tn_individual_32
  exact (key n0) hP hD hS hl h0
