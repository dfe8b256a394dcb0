theorem d_Co_makeAll_0 : decode prog_2_method_10_code 0 = .ok (.aload_n 0, 1) := by decide +kernel
theorem d_Co_makeAll_1 : decode prog_2_method_10_code 1 = .ok (.bipush 7, 2) := by decide +kernel
theorem d_Co_makeAll_3 : decode prog_2_method_10_code 3 = .ok (.iload_n 1, 1) := by decide +kernel
theorem d_Co_makeAll_4 : decode prog_2_method_10_code 4 = .ok (.iload_n 2, 1) := by decide +kernel
theorem d_Co_makeAll_5 : decode prog_2_method_10_code 5 = .ok (.invokevirtual 55, 3) := by decide +kernel
theorem d_Co_makeAll_8 : decode prog_2_method_10_code 8 = .ok (.istore_n 3, 1) := by decide +kernel
theorem d_Co_makeAll_9 : decode prog_2_method_10_code 9 = .ok (.iload_n 3, 1) := by decide +kernel
theorem d_Co_makeAll_10 : decode prog_2_method_10_code 10 = .ok (.iconst (-1), 1) := by decide +kernel
theorem d_Co_makeAll_11 : decode prog_2_method_10_code 11 = .ok (.if_icmp .eq 5, 3) := by decide +kernel
theorem d_Co_makeAll_14 : decode prog_2_method_10_code 14 = .ok (.iload_n 3, 1) := by decide +kernel
theorem d_Co_makeAll_15 : decode prog_2_method_10_code 15 = .ok (.ireturn, 1) := by decide +kernel
theorem d_Co_makeAll_16 : decode prog_2_method_10_code 16 = .ok (.aload_n 0, 1) := by decide +kernel
theorem d_Co_makeAll_17 : decode prog_2_method_10_code 17 = .ok (.iconst 3, 1) := by decide +kernel
theorem d_Co_makeAll_18 : decode prog_2_method_10_code 18 = .ok (.iload_n 2, 1) := by decide +kernel
theorem d_Co_makeAll_19 : decode prog_2_method_10_code 19 = .ok (.iconst 0, 1) := by decide +kernel
theorem d_Co_makeAll_20 : decode prog_2_method_10_code 20 = .ok (.invokevirtual 34, 3) := by decide +kernel
theorem d_Co_makeAll_23 : decode prog_2_method_10_code 23 = .ok (.istore 4, 2) := by decide +kernel
theorem d_Co_makeAll_25 : decode prog_2_method_10_code 25 = .ok (.iload 4, 2) := by decide +kernel
theorem d_Co_makeAll_27 : decode prog_2_method_10_code 27 = .ok (.bipush (-3), 2) := by decide +kernel
theorem d_Co_makeAll_29 : decode prog_2_method_10_code 29 = .ok (.if_icmp .ne 6, 3) := by decide +kernel
theorem d_Co_makeAll_32 : decode prog_2_method_10_code 32 = .ok (.bipush (-3), 2) := by decide +kernel
theorem d_Co_makeAll_34 : decode prog_2_method_10_code 34 = .ok (.ireturn, 1) := by decide +kernel
theorem d_Co_makeAll_35 : decode prog_2_method_10_code 35 = .ok (.aload_n 0, 1) := by decide +kernel
theorem d_Co_makeAll_36 : decode prog_2_method_10_code 36 = .ok (.bipush 6, 2) := by decide +kernel
theorem d_Co_makeAll_38 : decode prog_2_method_10_code 38 = .ok (.iload_n 1, 1) := by decide +kernel
theorem d_Co_makeAll_39 : decode prog_2_method_10_code 39 = .ok (.iload 4, 2) := by decide +kernel
theorem d_Co_makeAll_41 : decode prog_2_method_10_code 41 = .ok (.invokevirtual 34, 3) := by decide +kernel
theorem d_Co_makeAll_44 : decode prog_2_method_10_code 44 = .ok (.istore 5, 2) := by decide +kernel
theorem d_Co_makeAll_46 : decode prog_2_method_10_code 46 = .ok (.iload 5, 2) := by decide +kernel
theorem d_Co_makeAll_48 : decode prog_2_method_10_code 48 = .ok (.bipush (-3), 2) := by decide +kernel
theorem d_Co_makeAll_50 : decode prog_2_method_10_code 50 = .ok (.if_icmp .ne 8, 3) := by decide +kernel
theorem d_Co_makeAll_53 : decode prog_2_method_10_code 53 = .ok (.bipush (-3), 2) := by decide +kernel
theorem d_Co_makeAll_55 : decode prog_2_method_10_code 55 = .ok (.goto 11, 3) := by decide +kernel
theorem d_Co_makeAll_58 : decode prog_2_method_10_code 58 = .ok (.aload_n 0, 1) := by decide +kernel
theorem d_Co_makeAll_59 : decode prog_2_method_10_code 59 = .ok (.bipush 7, 2) := by decide +kernel
theorem d_Co_makeAll_61 : decode prog_2_method_10_code 61 = .ok (.iload_n 1, 1) := by decide +kernel
theorem d_Co_makeAll_62 : decode prog_2_method_10_code 62 = .ok (.iload_n 2, 1) := by decide +kernel
theorem d_Co_makeAll_63 : decode prog_2_method_10_code 63 = .ok (.invokevirtual 58, 3) := by decide +kernel
theorem d_Co_makeAll_66 : decode prog_2_method_10_code 66 = .ok (.ireturn, 1) := by decide +kernel
theorem d_Co_part_0 : decode prog_2_method_8_code 0 = .ok (.aload_n 0, 1) := by decide +kernel
theorem d_Co_part_1 : decode prog_2_method_8_code 1 = .ok (.iload_n 1, 1) := by decide +kernel
theorem d_Co_part_2 : decode prog_2_method_8_code 2 = .ok (.invokevirtual 51, 3) := by decide +kernel
theorem d_Co_part_5 : decode prog_2_method_8_code 5 = .ok (.ifCond .ne 5, 3) := by decide +kernel
theorem d_Co_part_8 : decode prog_2_method_8_code 8 = .ok (.iconst (-1), 1) := by decide +kernel
theorem d_Co_part_9 : decode prog_2_method_8_code 9 = .ok (.ireturn, 1) := by decide +kernel
theorem d_Co_part_10 : decode prog_2_method_8_code 10 = .ok (.iload_n 2, 1) := by decide +kernel
theorem d_Co_part_11 : decode prog_2_method_8_code 11 = .ok (.tableswitch 46 0 2 #[25, 32, 39], 25) := by decide +kernel
theorem d_Co_part_36 : decode prog_2_method_8_code 36 = .ok (.aload_n 0, 1) := by decide +kernel
theorem d_Co_part_37 : decode prog_2_method_8_code 37 = .ok (.getfield 9, 3) := by decide +kernel
theorem d_Co_part_40 : decode prog_2_method_8_code 40 = .ok (.iload_n 1, 1) := by decide +kernel
theorem d_Co_part_41 : decode prog_2_method_8_code 41 = .ok (.iaload, 1) := by decide +kernel
theorem d_Co_part_42 : decode prog_2_method_8_code 42 = .ok (.ireturn, 1) := by decide +kernel
theorem d_Co_part_43 : decode prog_2_method_8_code 43 = .ok (.aload_n 0, 1) := by decide +kernel
theorem d_Co_part_44 : decode prog_2_method_8_code 44 = .ok (.getfield 15, 3) := by decide +kernel
theorem d_Co_part_47 : decode prog_2_method_8_code 47 = .ok (.iload_n 1, 1) := by decide +kernel
theorem d_Co_part_48 : decode prog_2_method_8_code 48 = .ok (.iaload, 1) := by decide +kernel
theorem d_Co_part_49 : decode prog_2_method_8_code 49 = .ok (.ireturn, 1) := by decide +kernel
theorem d_Co_part_50 : decode prog_2_method_8_code 50 = .ok (.aload_n 0, 1) := by decide +kernel
theorem d_Co_part_51 : decode prog_2_method_8_code 51 = .ok (.getfield 18, 3) := by decide +kernel
theorem d_Co_part_54 : decode prog_2_method_8_code 54 = .ok (.iload_n 1, 1) := by decide +kernel
theorem d_Co_part_55 : decode prog_2_method_8_code 55 = .ok (.iaload, 1) := by decide +kernel
theorem d_Co_part_56 : decode prog_2_method_8_code 56 = .ok (.ireturn, 1) := by decide +kernel
theorem d_Co_part_57 : decode prog_2_method_8_code 57 = .ok (.iconst (-1), 1) := by decide +kernel
theorem d_Co_part_58 : decode prog_2_method_8_code 58 = .ok (.ireturn, 1) := by decide +kernel
theorem d_Co_size_0 : decode prog_2_method_2_code 0 = .ok (.aload_n 0, 1) := by decide +kernel
theorem d_Co_size_1 : decode prog_2_method_2_code 1 = .ok (.getfield 38, 3) := by decide +kernel
theorem d_Co_size_4 : decode prog_2_method_2_code 4 = .ok (.ireturn, 1) := by decide +kernel
theorem d_Co_atomCount_0 : decode prog_2_method_3_code 0 = .ok (.aload_n 0, 1) := by decide +kernel
theorem d_Co_atomCount_1 : decode prog_2_method_3_code 1 = .ok (.getfield 42, 3) := by decide +kernel
theorem d_Co_atomCount_4 : decode prog_2_method_3_code 4 = .ok (.ireturn, 1) := by decide +kernel
theorem d_Ro_close_0 : decode prog_4_method_4_code 0 = .ok (.iconst 0, 1) := by decide +kernel
theorem d_Ro_close_1 : decode prog_4_method_4_code 1 = .ok (.istore_n 1, 1) := by decide +kernel
theorem d_Ro_close_2 : decode prog_4_method_4_code 2 = .ok (.iload_n 1, 1) := by decide +kernel
theorem d_Ro_close_3 : decode prog_4_method_4_code 3 = .ok (.iconst 4, 1) := by decide +kernel
theorem d_Ro_close_4 : decode prog_4_method_4_code 4 = .ok (.if_icmp .ge 25, 3) := by decide +kernel
theorem d_Ro_close_7 : decode prog_4_method_4_code 7 = .ok (.aload_n 0, 1) := by decide +kernel
theorem d_Ro_close_8 : decode prog_4_method_4_code 8 = .ok (.getfield 15, 3) := by decide +kernel
theorem d_Ro_close_11 : decode prog_4_method_4_code 11 = .ok (.iload_n 1, 1) := by decide +kernel
theorem d_Ro_close_12 : decode prog_4_method_4_code 12 = .ok (.aload_n 0, 1) := by decide +kernel
theorem d_Ro_close_13 : decode prog_4_method_4_code 13 = .ok (.getfield 9, 3) := by decide +kernel
theorem d_Ro_close_16 : decode prog_4_method_4_code 16 = .ok (.iload_n 1, 1) := by decide +kernel
theorem d_Ro_close_17 : decode prog_4_method_4_code 17 = .ok (.iaload, 1) := by decide +kernel
theorem d_Ro_close_18 : decode prog_4_method_4_code 18 = .ok (.iconst 1, 1) := by decide +kernel
theorem d_Ro_close_19 : decode prog_4_method_4_code 19 = .ok (.iload_n 1, 1) := by decide +kernel
theorem d_Ro_close_20 : decode prog_4_method_4_code 20 = .ok (.ishl, 1) := by decide +kernel
theorem d_Ro_close_21 : decode prog_4_method_4_code 21 = .ok (.ior, 1) := by decide +kernel
theorem d_Ro_close_22 : decode prog_4_method_4_code 22 = .ok (.iastore, 1) := by decide +kernel
theorem d_Ro_close_23 : decode prog_4_method_4_code 23 = .ok (.iinc 1 1, 3) := by decide +kernel
theorem d_Ro_close_26 : decode prog_4_method_4_code 26 = .ok (.goto (-24), 3) := by decide +kernel
theorem d_Ro_close_29 : decode prog_4_method_4_code 29 = .ok (.iconst 0, 1) := by decide +kernel
theorem d_Ro_close_30 : decode prog_4_method_4_code 30 = .ok (.istore_n 1, 1) := by decide +kernel
theorem d_Ro_close_31 : decode prog_4_method_4_code 31 = .ok (.iload_n 1, 1) := by decide +kernel
theorem d_Ro_close_32 : decode prog_4_method_4_code 32 = .ok (.iconst 4, 1) := by decide +kernel
theorem d_Ro_close_33 : decode prog_4_method_4_code 33 = .ok (.if_icmp .ge 51, 3) := by decide +kernel
theorem d_Ro_close_36 : decode prog_4_method_4_code 36 = .ok (.iconst 0, 1) := by decide +kernel
theorem d_Ro_close_37 : decode prog_4_method_4_code 37 = .ok (.istore_n 2, 1) := by decide +kernel
theorem d_Ro_close_38 : decode prog_4_method_4_code 38 = .ok (.iload_n 2, 1) := by decide +kernel
theorem d_Ro_close_39 : decode prog_4_method_4_code 39 = .ok (.iconst 4, 1) := by decide +kernel
theorem d_Ro_close_40 : decode prog_4_method_4_code 40 = .ok (.if_icmp .ge 38, 3) := by decide +kernel
theorem d_Ro_close_43 : decode prog_4_method_4_code 43 = .ok (.aload_n 0, 1) := by decide +kernel
theorem d_Ro_close_44 : decode prog_4_method_4_code 44 = .ok (.getfield 15, 3) := by decide +kernel
theorem d_Ro_close_47 : decode prog_4_method_4_code 47 = .ok (.iload_n 2, 1) := by decide +kernel
theorem d_Ro_close_48 : decode prog_4_method_4_code 48 = .ok (.iaload, 1) := by decide +kernel
theorem d_Ro_close_49 : decode prog_4_method_4_code 49 = .ok (.i2l, 1) := by decide +kernel
theorem d_Ro_close_50 : decode prog_4_method_4_code 50 = .ok (.iload_n 1, 1) := by decide +kernel
theorem d_Ro_close_51 : decode prog_4_method_4_code 51 = .ok (.invokestatic 25, 3) := by decide +kernel
theorem d_Ro_close_54 : decode prog_4_method_4_code 54 = .ok (.ifCond .eq 18, 3) := by decide +kernel
theorem d_Ro_close_57 : decode prog_4_method_4_code 57 = .ok (.aload_n 0, 1) := by decide +kernel
theorem d_Ro_close_58 : decode prog_4_method_4_code 58 = .ok (.getfield 15, 3) := by decide +kernel
theorem d_Ro_close_61 : decode prog_4_method_4_code 61 = .ok (.iload_n 2, 1) := by decide +kernel
theorem d_Ro_close_62 : decode prog_4_method_4_code 62 = .ok (.dup2, 1) := by decide +kernel
theorem d_Ro_close_63 : decode prog_4_method_4_code 63 = .ok (.iaload, 1) := by decide +kernel
theorem d_Ro_close_64 : decode prog_4_method_4_code 64 = .ok (.aload_n 0, 1) := by decide +kernel
theorem d_Ro_close_65 : decode prog_4_method_4_code 65 = .ok (.getfield 15, 3) := by decide +kernel
theorem d_Ro_close_68 : decode prog_4_method_4_code 68 = .ok (.iload_n 1, 1) := by decide +kernel
theorem d_Ro_close_69 : decode prog_4_method_4_code 69 = .ok (.iaload, 1) := by decide +kernel
theorem d_Ro_close_70 : decode prog_4_method_4_code 70 = .ok (.ior, 1) := by decide +kernel
theorem d_Ro_close_71 : decode prog_4_method_4_code 71 = .ok (.iastore, 1) := by decide +kernel
theorem d_Ro_close_72 : decode prog_4_method_4_code 72 = .ok (.iinc 2 1, 3) := by decide +kernel
theorem d_Ro_close_75 : decode prog_4_method_4_code 75 = .ok (.goto (-37), 3) := by decide +kernel
theorem d_Ro_close_78 : decode prog_4_method_4_code 78 = .ok (.iinc 1 1, 3) := by decide +kernel
theorem d_Ro_close_81 : decode prog_4_method_4_code 81 = .ok (.goto (-50), 3) := by decide +kernel
theorem d_Ro_close_84 : decode prog_4_method_4_code 84 = .ok (.return_, 1) := by decide +kernel
theorem d_Ro_say_0 : decode prog_4_method_2_code 0 = .ok (.iload_n 1, 1) := by decide +kernel
theorem d_Ro_say_1 : decode prog_4_method_2_code 1 = .ok (.iconst 4, 1) := by decide +kernel
theorem d_Ro_say_2 : decode prog_4_method_2_code 2 = .ok (.invokestatic 21, 3) := by decide +kernel
theorem d_Ro_say_5 : decode prog_4_method_2_code 5 = .ok (.ifCond .eq 17, 3) := by decide +kernel
theorem d_Ro_say_8 : decode prog_4_method_2_code 8 = .ok (.aload_n 0, 1) := by decide +kernel
theorem d_Ro_say_9 : decode prog_4_method_2_code 9 = .ok (.getfield 9, 3) := by decide +kernel
theorem d_Ro_say_12 : decode prog_4_method_2_code 12 = .ok (.iload_n 1, 1) := by decide +kernel
theorem d_Ro_say_13 : decode prog_4_method_2_code 13 = .ok (.iaload, 1) := by decide +kernel
theorem d_Ro_say_14 : decode prog_4_method_2_code 14 = .ok (.i2l, 1) := by decide +kernel
theorem d_Ro_say_15 : decode prog_4_method_2_code 15 = .ok (.iload_n 2, 1) := by decide +kernel
theorem d_Ro_say_16 : decode prog_4_method_2_code 16 = .ok (.invokestatic 25, 3) := by decide +kernel
theorem d_Ro_say_19 : decode prog_4_method_2_code 19 = .ok (.ifCond .eq 5, 3) := by decide +kernel
theorem d_Ro_say_22 : decode prog_4_method_2_code 22 = .ok (.iconst 0, 1) := by decide +kernel
theorem d_Ro_say_23 : decode prog_4_method_2_code 23 = .ok (.ireturn, 1) := by decide +kernel
theorem d_Ro_say_24 : decode prog_4_method_2_code 24 = .ok (.aload_n 0, 1) := by decide +kernel
theorem d_Ro_say_25 : decode prog_4_method_2_code 25 = .ok (.getfield 9, 3) := by decide +kernel
theorem d_Ro_say_28 : decode prog_4_method_2_code 28 = .ok (.iload_n 1, 1) := by decide +kernel
theorem d_Ro_say_29 : decode prog_4_method_2_code 29 = .ok (.dup2, 1) := by decide +kernel
theorem d_Ro_say_30 : decode prog_4_method_2_code 30 = .ok (.iaload, 1) := by decide +kernel
theorem d_Ro_say_31 : decode prog_4_method_2_code 31 = .ok (.iconst 1, 1) := by decide +kernel
theorem d_Ro_say_32 : decode prog_4_method_2_code 32 = .ok (.iload_n 2, 1) := by decide +kernel
theorem d_Ro_say_33 : decode prog_4_method_2_code 33 = .ok (.ishl, 1) := by decide +kernel
theorem d_Ro_say_34 : decode prog_4_method_2_code 34 = .ok (.ior, 1) := by decide +kernel
theorem d_Ro_say_35 : decode prog_4_method_2_code 35 = .ok (.iastore, 1) := by decide +kernel
theorem d_Ro_say_36 : decode prog_4_method_2_code 36 = .ok (.aload_n 0, 1) := by decide +kernel
theorem d_Ro_say_37 : decode prog_4_method_2_code 37 = .ok (.invokevirtual 18, 3) := by decide +kernel
theorem d_Ro_say_40 : decode prog_4_method_2_code 40 = .ok (.iconst 1, 1) := by decide +kernel
theorem d_Ro_say_41 : decode prog_4_method_2_code 41 = .ok (.ireturn, 1) := by decide +kernel
theorem d_Co_isSome_0 : decode prog_2_method_16_code 0 = .ok (.iload_n 1, 1) := by decide +kernel
theorem d_Co_isSome_1 : decode prog_2_method_16_code 1 = .ok (.aload_n 0, 1) := by decide +kernel
theorem d_Co_isSome_2 : decode prog_2_method_16_code 2 = .ok (.getfield 42, 3) := by decide +kernel
theorem d_Co_isSome_5 : decode prog_2_method_16_code 5 = .ok (.invokestatic 72, 3) := by decide +kernel
theorem d_Co_isSome_8 : decode prog_2_method_16_code 8 = .ok (.ifCond .eq 23, 3) := by decide +kernel
theorem d_Co_isSome_11 : decode prog_2_method_16_code 11 = .ok (.aload_n 0, 1) := by decide +kernel
theorem d_Co_isSome_12 : decode prog_2_method_16_code 12 = .ok (.getfield 9, 3) := by decide +kernel
theorem d_Co_isSome_15 : decode prog_2_method_16_code 15 = .ok (.aload_n 0, 1) := by decide +kernel
theorem d_Co_isSome_16 : decode prog_2_method_16_code 16 = .ok (.getfield 25, 3) := by decide +kernel
theorem d_Co_isSome_19 : decode prog_2_method_16_code 19 = .ok (.iload_n 1, 1) := by decide +kernel
theorem d_Co_isSome_20 : decode prog_2_method_16_code 20 = .ok (.iaload, 1) := by decide +kernel
theorem d_Co_isSome_21 : decode prog_2_method_16_code 21 = .ok (.iaload, 1) := by decide +kernel
theorem d_Co_isSome_22 : decode prog_2_method_16_code 22 = .ok (.bipush 6, 2) := by decide +kernel
theorem d_Co_isSome_24 : decode prog_2_method_16_code 24 = .ok (.if_icmp .ne 7, 3) := by decide +kernel
theorem d_Co_isSome_27 : decode prog_2_method_16_code 27 = .ok (.iconst 1, 1) := by decide +kernel
theorem d_Co_isSome_28 : decode prog_2_method_16_code 28 = .ok (.goto 4, 3) := by decide +kernel
theorem d_Co_isSome_31 : decode prog_2_method_16_code 31 = .ok (.iconst 0, 1) := by decide +kernel
theorem d_Co_isSome_32 : decode prog_2_method_16_code 32 = .ok (.ireturn, 1) := by decide +kernel
theorem d_Co_roleOfSome_0 : decode prog_2_method_17_code 0 = .ok (.aload_n 0, 1) := by decide +kernel
theorem d_Co_roleOfSome_1 : decode prog_2_method_17_code 1 = .ok (.iload_n 1, 1) := by decide +kernel
theorem d_Co_roleOfSome_2 : decode prog_2_method_17_code 2 = .ok (.invokevirtual 76, 3) := by decide +kernel
theorem d_Co_roleOfSome_5 : decode prog_2_method_17_code 5 = .ok (.ifCond .eq 17, 3) := by decide +kernel
theorem d_Co_roleOfSome_8 : decode prog_2_method_17_code 8 = .ok (.aload_n 0, 1) := by decide +kernel
theorem d_Co_roleOfSome_9 : decode prog_2_method_17_code 9 = .ok (.getfield 15, 3) := by decide +kernel
theorem d_Co_roleOfSome_12 : decode prog_2_method_17_code 12 = .ok (.aload_n 0, 1) := by decide +kernel
theorem d_Co_roleOfSome_13 : decode prog_2_method_17_code 13 = .ok (.getfield 25, 3) := by decide +kernel
theorem d_Co_roleOfSome_16 : decode prog_2_method_17_code 16 = .ok (.iload_n 1, 1) := by decide +kernel
theorem d_Co_roleOfSome_17 : decode prog_2_method_17_code 17 = .ok (.iaload, 1) := by decide +kernel
theorem d_Co_roleOfSome_18 : decode prog_2_method_17_code 18 = .ok (.iaload, 1) := by decide +kernel
theorem d_Co_roleOfSome_19 : decode prog_2_method_17_code 19 = .ok (.goto 4, 3) := by decide +kernel
theorem d_Co_roleOfSome_22 : decode prog_2_method_17_code 22 = .ok (.iconst 0, 1) := by decide +kernel
theorem d_Co_roleOfSome_23 : decode prog_2_method_17_code 23 = .ok (.ireturn, 1) := by decide +kernel
theorem d_Ro_isUnder_0 : decode prog_4_method_3_code 0 = .ok (.iload_n 1, 1) := by decide +kernel
theorem d_Ro_isUnder_1 : decode prog_4_method_3_code 1 = .ok (.iconst 4, 1) := by decide +kernel
theorem d_Ro_isUnder_2 : decode prog_4_method_3_code 2 = .ok (.invokestatic 21, 3) := by decide +kernel
theorem d_Ro_isUnder_5 : decode prog_4_method_3_code 5 = .ok (.ifCond .eq 21, 3) := by decide +kernel
theorem d_Ro_isUnder_8 : decode prog_4_method_3_code 8 = .ok (.aload_n 0, 1) := by decide +kernel
theorem d_Ro_isUnder_9 : decode prog_4_method_3_code 9 = .ok (.getfield 15, 3) := by decide +kernel
theorem d_Ro_isUnder_12 : decode prog_4_method_3_code 12 = .ok (.iload_n 1, 1) := by decide +kernel
theorem d_Ro_isUnder_13 : decode prog_4_method_3_code 13 = .ok (.iaload, 1) := by decide +kernel
theorem d_Ro_isUnder_14 : decode prog_4_method_3_code 14 = .ok (.i2l, 1) := by decide +kernel
theorem d_Ro_isUnder_15 : decode prog_4_method_3_code 15 = .ok (.iload_n 2, 1) := by decide +kernel
theorem d_Ro_isUnder_16 : decode prog_4_method_3_code 16 = .ok (.invokestatic 25, 3) := by decide +kernel
theorem d_Ro_isUnder_19 : decode prog_4_method_3_code 19 = .ok (.ifCond .eq 7, 3) := by decide +kernel
theorem d_Ro_isUnder_22 : decode prog_4_method_3_code 22 = .ok (.iconst 1, 1) := by decide +kernel
theorem d_Ro_isUnder_23 : decode prog_4_method_3_code 23 = .ok (.goto 4, 3) := by decide +kernel
theorem d_Ro_isUnder_26 : decode prog_4_method_3_code 26 = .ok (.iconst 0, 1) := by decide +kernel
theorem d_Ro_isUnder_27 : decode prog_4_method_3_code 27 = .ok (.ireturn, 1) := by decide +kernel
theorem d_Co_typeCount_0 : decode prog_2_method_4_code 0 = .ok (.iconst 1, 1) := by decide +kernel
theorem d_Co_typeCount_1 : decode prog_2_method_4_code 1 = .ok (.aload_n 0, 1) := by decide +kernel
theorem d_Co_typeCount_2 : decode prog_2_method_4_code 2 = .ok (.getfield 42, 3) := by decide +kernel
theorem d_Co_typeCount_5 : decode prog_2_method_4_code 5 = .ok (.ishl, 1) := by decide +kernel
theorem d_Co_typeCount_6 : decode prog_2_method_4_code 6 = .ok (.ireturn, 1) := by decide +kernel
theorem d_Co_wordCount_0 : decode prog_2_method_5_code 0 = .ok (.aload_n 0, 1) := by decide +kernel
theorem d_Co_wordCount_1 : decode prog_2_method_5_code 1 = .ok (.invokevirtual 45, 3) := by decide +kernel
theorem d_Co_wordCount_4 : decode prog_2_method_5_code 4 = .ok (.bipush 64, 2) := by decide +kernel
theorem d_Co_wordCount_6 : decode prog_2_method_5_code 6 = .ok (.iadd, 1) := by decide +kernel
theorem d_Co_wordCount_7 : decode prog_2_method_5_code 7 = .ok (.iconst 1, 1) := by decide +kernel
theorem d_Co_wordCount_8 : decode prog_2_method_5_code 8 = .ok (.isub, 1) := by decide +kernel
theorem d_Co_wordCount_9 : decode prog_2_method_5_code 9 = .ok (.bipush 64, 2) := by decide +kernel
theorem d_Co_wordCount_11 : decode prog_2_method_5_code 11 = .ok (.idiv, 1) := by decide +kernel
theorem d_Co_wordCount_12 : decode prog_2_method_5_code 12 = .ok (.ireturn, 1) := by decide +kernel
theorem d_Co_typesInWord_0 : decode prog_2_method_6_code 0 = .ok (.aload_n 0, 1) := by decide +kernel
theorem d_Co_typesInWord_1 : decode prog_2_method_6_code 1 = .ok (.invokevirtual 45, 3) := by decide +kernel
theorem d_Co_typesInWord_4 : decode prog_2_method_6_code 4 = .ok (.bipush 64, 2) := by decide +kernel
theorem d_Co_typesInWord_6 : decode prog_2_method_6_code 6 = .ok (.if_icmp .ge 14, 3) := by decide +kernel
theorem d_Co_typesInWord_9 : decode prog_2_method_6_code 9 = .ok (.lconst 1, 1) := by decide +kernel
theorem d_Co_typesInWord_10 : decode prog_2_method_6_code 10 = .ok (.aload_n 0, 1) := by decide +kernel
theorem d_Co_typesInWord_11 : decode prog_2_method_6_code 11 = .ok (.invokevirtual 45, 3) := by decide +kernel
theorem d_Co_typesInWord_14 : decode prog_2_method_6_code 14 = .ok (.lshl, 1) := by decide +kernel
theorem d_Co_typesInWord_15 : decode prog_2_method_6_code 15 = .ok (.lconst 1, 1) := by decide +kernel
theorem d_Co_typesInWord_16 : decode prog_2_method_6_code 16 = .ok (.lsub, 1) := by decide +kernel
theorem d_Co_typesInWord_17 : decode prog_2_method_6_code 17 = .ok (.goto 6, 3) := by decide +kernel
theorem d_Co_typesInWord_20 : decode prog_2_method_6_code 20 = .ok (.ldc2_w 49, 3) := by decide +kernel
theorem d_Co_typesInWord_23 : decode prog_2_method_6_code 23 = .ok (.lreturn, 1) := by decide +kernel
theorem d_Co_inners_0 : decode prog_2_method_15_code 0 = .ok (.iload_n 1, 1) := by decide +kernel
theorem d_Co_inners_1 : decode prog_2_method_15_code 1 = .ok (.sipush 1024, 3) := by decide +kernel
theorem d_Co_inners_4 : decode prog_2_method_15_code 4 = .ok (.invokestatic 72, 3) := by decide +kernel
theorem d_Co_inners_7 : decode prog_2_method_15_code 7 = .ok (.ifCond .eq 12, 3) := by decide +kernel
theorem d_Co_inners_10 : decode prog_2_method_15_code 10 = .ok (.aload_n 0, 1) := by decide +kernel
theorem d_Co_inners_11 : decode prog_2_method_15_code 11 = .ok (.getfield 31, 3) := by decide +kernel
theorem d_Co_inners_14 : decode prog_2_method_15_code 14 = .ok (.iload_n 1, 1) := by decide +kernel
theorem d_Co_inners_15 : decode prog_2_method_15_code 15 = .ok (.iaload, 1) := by decide +kernel
theorem d_Co_inners_16 : decode prog_2_method_15_code 16 = .ok (.goto 4, 3) := by decide +kernel
theorem d_Co_inners_19 : decode prog_2_method_15_code 19 = .ok (.iconst 0, 1) := by decide +kernel
theorem d_Co_inners_20 : decode prog_2_method_15_code 20 = .ok (.ireturn, 1) := by decide +kernel
theorem d_Co_innerWord_0 : decode prog_2_method_14_code 0 = .ok (.iload_n 1, 1) := by decide +kernel
theorem d_Co_innerWord_1 : decode prog_2_method_14_code 1 = .ok (.ifCond .lt 23, 3) := by decide +kernel
theorem d_Co_innerWord_4 : decode prog_2_method_14_code 4 = .ok (.iload_n 1, 1) := by decide +kernel
theorem d_Co_innerWord_5 : decode prog_2_method_14_code 5 = .ok (.bipush 10, 2) := by decide +kernel
theorem d_Co_innerWord_7 : decode prog_2_method_14_code 7 = .ok (.if_icmp .ge 17, 3) := by decide +kernel
theorem d_Co_innerWord_10 : decode prog_2_method_14_code 10 = .ok (.iload_n 2, 1) := by decide +kernel
theorem d_Co_innerWord_11 : decode prog_2_method_14_code 11 = .ok (.ifCond .lt 13, 3) := by decide +kernel
theorem d_Co_innerWord_14 : decode prog_2_method_14_code 14 = .ok (.iload_n 2, 1) := by decide +kernel
theorem d_Co_innerWord_15 : decode prog_2_method_14_code 15 = .ok (.bipush 16, 2) := by decide +kernel
theorem d_Co_innerWord_17 : decode prog_2_method_14_code 17 = .ok (.if_icmp .ge 7, 3) := by decide +kernel
theorem d_Co_innerWord_20 : decode prog_2_method_14_code 20 = .ok (.iconst 1, 1) := by decide +kernel
theorem d_Co_innerWord_21 : decode prog_2_method_14_code 21 = .ok (.goto 4, 3) := by decide +kernel
theorem d_Co_innerWord_24 : decode prog_2_method_14_code 24 = .ok (.iconst 0, 1) := by decide +kernel
theorem d_Co_innerWord_25 : decode prog_2_method_14_code 25 = .ok (.istore_n 3, 1) := by decide +kernel
theorem d_Co_innerWord_26 : decode prog_2_method_14_code 26 = .ok (.iload_n 3, 1) := by decide +kernel
theorem d_Co_innerWord_27 : decode prog_2_method_14_code 27 = .ok (.ifCond .eq 17, 3) := by decide +kernel
theorem d_Co_innerWord_30 : decode prog_2_method_14_code 30 = .ok (.aload_n 0, 1) := by decide +kernel
theorem d_Co_innerWord_31 : decode prog_2_method_14_code 31 = .ok (.getfield 28, 3) := by decide +kernel
theorem d_Co_innerWord_34 : decode prog_2_method_14_code 34 = .ok (.iload_n 1, 1) := by decide +kernel
theorem d_Co_innerWord_35 : decode prog_2_method_14_code 35 = .ok (.bipush 16, 2) := by decide +kernel
theorem d_Co_innerWord_37 : decode prog_2_method_14_code 37 = .ok (.imul, 1) := by decide +kernel
theorem d_Co_innerWord_38 : decode prog_2_method_14_code 38 = .ok (.iload_n 2, 1) := by decide +kernel
theorem d_Co_innerWord_39 : decode prog_2_method_14_code 39 = .ok (.iadd, 1) := by decide +kernel
theorem d_Co_innerWord_40 : decode prog_2_method_14_code 40 = .ok (.laload, 1) := by decide +kernel
theorem d_Co_innerWord_41 : decode prog_2_method_14_code 41 = .ok (.goto 4, 3) := by decide +kernel
theorem d_Co_innerWord_44 : decode prog_2_method_14_code 44 = .ok (.lconst 0, 1) := by decide +kernel
theorem d_Co_innerWord_45 : decode prog_2_method_14_code 45 = .ok (.lreturn, 1) := by decide +kernel
theorem d_Co_holds_0 : decode prog_2_method_12_code 0 = .ok (.aload_n 0, 1) := by decide +kernel
theorem d_Co_holds_1 : decode prog_2_method_12_code 1 = .ok (.iload_n 1, 1) := by decide +kernel
theorem d_Co_holds_2 : decode prog_2_method_12_code 2 = .ok (.iload_n 2, 1) := by decide +kernel
theorem d_Co_holds_3 : decode prog_2_method_12_code 3 = .ok (.bipush 64, 2) := by decide +kernel
theorem d_Co_holds_5 : decode prog_2_method_12_code 5 = .ok (.idiv, 1) := by decide +kernel
theorem d_Co_holds_6 : decode prog_2_method_12_code 6 = .ok (.invokevirtual 61, 3) := by decide +kernel
theorem d_Co_holds_9 : decode prog_2_method_12_code 9 = .ok (.iload_n 2, 1) := by decide +kernel
theorem d_Co_holds_10 : decode prog_2_method_12_code 10 = .ok (.bipush 64, 2) := by decide +kernel
theorem d_Co_holds_12 : decode prog_2_method_12_code 12 = .ok (.irem, 1) := by decide +kernel
theorem d_Co_holds_13 : decode prog_2_method_12_code 13 = .ok (.invokestatic 65, 3) := by decide +kernel
theorem d_Co_holds_16 : decode prog_2_method_12_code 16 = .ok (.ireturn, 1) := by decide +kernel
theorem d_Go_addAxiom_0 : decode prog_3_method_2_code 0 = .ok (.aload_n 0, 1) := by decide +kernel
theorem d_Go_addAxiom_1 : decode prog_3_method_2_code 1 = .ok (.getfield 49, 3) := by decide +kernel
theorem d_Go_addAxiom_4 : decode prog_3_method_2_code 4 = .ok (.bipush 30, 2) := by decide +kernel
theorem d_Go_addAxiom_6 : decode prog_3_method_2_code 6 = .ok (.if_icmp .lt 6, 3) := by decide +kernel
theorem d_Go_addAxiom_9 : decode prog_3_method_2_code 9 = .ok (.bipush (-3), 2) := by decide +kernel
theorem d_Go_addAxiom_11 : decode prog_3_method_2_code 11 = .ok (.ireturn, 1) := by decide +kernel
theorem d_Go_addAxiom_12 : decode prog_3_method_2_code 12 = .ok (.aload_n 0, 1) := by decide +kernel
theorem d_Go_addAxiom_13 : decode prog_3_method_2_code 13 = .ok (.getfield 9, 3) := by decide +kernel
theorem d_Go_addAxiom_16 : decode prog_3_method_2_code 16 = .ok (.aload_n 0, 1) := by decide +kernel
theorem d_Go_addAxiom_17 : decode prog_3_method_2_code 17 = .ok (.getfield 49, 3) := by decide +kernel
theorem d_Go_addAxiom_20 : decode prog_3_method_2_code 20 = .ok (.iload_n 1, 1) := by decide +kernel
theorem d_Go_addAxiom_21 : decode prog_3_method_2_code 21 = .ok (.iastore, 1) := by decide +kernel
theorem d_Go_addAxiom_22 : decode prog_3_method_2_code 22 = .ok (.aload_n 0, 1) := by decide +kernel
theorem d_Go_addAxiom_23 : decode prog_3_method_2_code 23 = .ok (.getfield 15, 3) := by decide +kernel
theorem d_Go_addAxiom_26 : decode prog_3_method_2_code 26 = .ok (.aload_n 0, 1) := by decide +kernel
theorem d_Go_addAxiom_27 : decode prog_3_method_2_code 27 = .ok (.getfield 49, 3) := by decide +kernel
theorem d_Go_addAxiom_30 : decode prog_3_method_2_code 30 = .ok (.iload_n 2, 1) := by decide +kernel
theorem d_Go_addAxiom_31 : decode prog_3_method_2_code 31 = .ok (.iastore, 1) := by decide +kernel
theorem d_Go_addAxiom_32 : decode prog_3_method_2_code 32 = .ok (.aload_n 0, 1) := by decide +kernel
theorem d_Go_addAxiom_33 : decode prog_3_method_2_code 33 = .ok (.dup, 1) := by decide +kernel
theorem d_Go_addAxiom_34 : decode prog_3_method_2_code 34 = .ok (.getfield 49, 3) := by decide +kernel
theorem d_Go_addAxiom_37 : decode prog_3_method_2_code 37 = .ok (.iconst 1, 1) := by decide +kernel
theorem d_Go_addAxiom_38 : decode prog_3_method_2_code 38 = .ok (.iadd, 1) := by decide +kernel
theorem d_Go_addAxiom_39 : decode prog_3_method_2_code 39 = .ok (.putfield 49, 3) := by decide +kernel
theorem d_Go_addAxiom_42 : decode prog_3_method_2_code 42 = .ok (.aload_n 0, 1) := by decide +kernel
theorem d_Go_addAxiom_43 : decode prog_3_method_2_code 43 = .ok (.iconst 1, 1) := by decide +kernel
theorem d_Go_addAxiom_44 : decode prog_3_method_2_code 44 = .ok (.putfield 37, 3) := by decide +kernel
theorem d_Go_addAxiom_47 : decode prog_3_method_2_code 47 = .ok (.aload_n 0, 1) := by decide +kernel
theorem d_Go_addAxiom_48 : decode prog_3_method_2_code 48 = .ok (.getfield 49, 3) := by decide +kernel
theorem d_Go_addAxiom_51 : decode prog_3_method_2_code 51 = .ok (.iconst 1, 1) := by decide +kernel
theorem d_Go_addAxiom_52 : decode prog_3_method_2_code 52 = .ok (.isub, 1) := by decide +kernel
theorem d_Go_addAxiom_53 : decode prog_3_method_2_code 53 = .ok (.ireturn, 1) := by decide +kernel
theorem d_Go_dropAxiom_0 : decode prog_3_method_3_code 0 = .ok (.aload_n 0, 1) := by decide +kernel
theorem d_Go_dropAxiom_1 : decode prog_3_method_3_code 1 = .ok (.getfield 49, 3) := by decide +kernel
theorem d_Go_dropAxiom_4 : decode prog_3_method_3_code 4 = .ok (.ifCond .gt 6, 3) := by decide +kernel
theorem d_Go_dropAxiom_7 : decode prog_3_method_3_code 7 = .ok (.bipush (-2), 2) := by decide +kernel
theorem d_Go_dropAxiom_9 : decode prog_3_method_3_code 9 = .ok (.ireturn, 1) := by decide +kernel
theorem d_Go_dropAxiom_10 : decode prog_3_method_3_code 10 = .ok (.aload_n 0, 1) := by decide +kernel
theorem d_Go_dropAxiom_11 : decode prog_3_method_3_code 11 = .ok (.dup, 1) := by decide +kernel
theorem d_Go_dropAxiom_12 : decode prog_3_method_3_code 12 = .ok (.getfield 49, 3) := by decide +kernel
theorem d_Go_dropAxiom_15 : decode prog_3_method_3_code 15 = .ok (.iconst 1, 1) := by decide +kernel
theorem d_Go_dropAxiom_16 : decode prog_3_method_3_code 16 = .ok (.isub, 1) := by decide +kernel
theorem d_Go_dropAxiom_17 : decode prog_3_method_3_code 17 = .ok (.putfield 49, 3) := by decide +kernel
theorem d_Go_dropAxiom_20 : decode prog_3_method_3_code 20 = .ok (.aload_n 0, 1) := by decide +kernel
theorem d_Go_dropAxiom_21 : decode prog_3_method_3_code 21 = .ok (.iconst 1, 1) := by decide +kernel
theorem d_Go_dropAxiom_22 : decode prog_3_method_3_code 22 = .ok (.putfield 37, 3) := by decide +kernel
theorem d_Go_dropAxiom_25 : decode prog_3_method_3_code 25 = .ok (.aload_n 0, 1) := by decide +kernel
theorem d_Go_dropAxiom_26 : decode prog_3_method_3_code 26 = .ok (.getfield 49, 3) := by decide +kernel
theorem d_Go_dropAxiom_29 : decode prog_3_method_3_code 29 = .ok (.ireturn, 1) := by decide +kernel
theorem d_Go_rolesChanged_0 : decode prog_3_method_4_code 0 = .ok (.aload_n 0, 1) := by decide +kernel
theorem d_Go_rolesChanged_1 : decode prog_3_method_4_code 1 = .ok (.iconst 1, 1) := by decide +kernel
theorem d_Go_rolesChanged_2 : decode prog_3_method_4_code 2 = .ok (.putfield 37, 3) := by decide +kernel
theorem d_Go_rolesChanged_5 : decode prog_3_method_4_code 5 = .ok (.return_, 1) := by decide +kernel
theorem d_Go_sortSomes_0 : decode prog_3_method_14_code 0 = .ok (.iconst 0, 1) := by decide +kernel
theorem d_Go_sortSomes_1 : decode prog_3_method_14_code 1 = .ok (.istore_n 1, 1) := by decide +kernel
theorem d_Go_sortSomes_2 : decode prog_3_method_14_code 2 = .ok (.iload_n 1, 1) := by decide +kernel
theorem d_Go_sortSomes_3 : decode prog_3_method_14_code 3 = .ok (.iconst 4, 1) := by decide +kernel
theorem d_Go_sortSomes_4 : decode prog_3_method_14_code 4 = .ok (.if_icmp .ge 109, 3) := by decide +kernel
theorem d_Go_sortSomes_7 : decode prog_3_method_14_code 7 = .ok (.aload_n 0, 1) := by decide +kernel
theorem d_Go_sortSomes_8 : decode prog_3_method_14_code 8 = .ok (.getfield 18, 3) := by decide +kernel
theorem d_Go_sortSomes_11 : decode prog_3_method_14_code 11 = .ok (.iload_n 1, 1) := by decide +kernel
theorem d_Go_sortSomes_12 : decode prog_3_method_14_code 12 = .ok (.iconst 0, 1) := by decide +kernel
theorem d_Go_sortSomes_13 : decode prog_3_method_14_code 13 = .ok (.iastore, 1) := by decide +kernel
theorem d_Go_sortSomes_14 : decode prog_3_method_14_code 14 = .ok (.aload_n 0, 1) := by decide +kernel
theorem d_Go_sortSomes_15 : decode prog_3_method_14_code 15 = .ok (.getfield 21, 3) := by decide +kernel
theorem d_Go_sortSomes_18 : decode prog_3_method_14_code 18 = .ok (.iload_n 1, 1) := by decide +kernel
theorem d_Go_sortSomes_19 : decode prog_3_method_14_code 19 = .ok (.iconst 0, 1) := by decide +kernel
theorem d_Go_sortSomes_20 : decode prog_3_method_14_code 20 = .ok (.iastore, 1) := by decide +kernel
theorem d_Go_sortSomes_21 : decode prog_3_method_14_code 21 = .ok (.iconst 0, 1) := by decide +kernel
theorem d_Go_sortSomes_22 : decode prog_3_method_14_code 22 = .ok (.istore_n 2, 1) := by decide +kernel
theorem d_Go_sortSomes_23 : decode prog_3_method_14_code 23 = .ok (.iload_n 2, 1) := by decide +kernel
theorem d_Go_sortSomes_24 : decode prog_3_method_14_code 24 = .ok (.bipush 10, 2) := by decide +kernel
theorem d_Go_sortSomes_26 : decode prog_3_method_14_code 26 = .ok (.if_icmp .ge 81, 3) := by decide +kernel
theorem d_Go_sortSomes_29 : decode prog_3_method_14_code 29 = .ok (.aload_n 0, 1) := by decide +kernel
theorem d_Go_sortSomes_30 : decode prog_3_method_14_code 30 = .ok (.getfield 41, 3) := by decide +kernel
theorem d_Go_sortSomes_33 : decode prog_3_method_14_code 33 = .ok (.iload_n 2, 1) := by decide +kernel
theorem d_Go_sortSomes_34 : decode prog_3_method_14_code 34 = .ok (.invokevirtual 94, 3) := by decide +kernel
theorem d_Go_sortSomes_37 : decode prog_3_method_14_code 37 = .ok (.ifCond .ne 6, 3) := by decide +kernel
theorem d_Go_sortSomes_40 : decode prog_3_method_14_code 40 = .ok (.goto 61, 3) := by decide +kernel
theorem d_Go_sortSomes_43 : decode prog_3_method_14_code 43 = .ok (.aload_n 0, 1) := by decide +kernel
theorem d_Go_sortSomes_44 : decode prog_3_method_14_code 44 = .ok (.getfield 41, 3) := by decide +kernel
theorem d_Go_sortSomes_47 : decode prog_3_method_14_code 47 = .ok (.iload_n 2, 1) := by decide +kernel
theorem d_Go_sortSomes_48 : decode prog_3_method_14_code 48 = .ok (.invokevirtual 97, 3) := by decide +kernel
theorem d_Go_sortSomes_51 : decode prog_3_method_14_code 51 = .ok (.istore_n 3, 1) := by decide +kernel
theorem d_Go_sortSomes_52 : decode prog_3_method_14_code 52 = .ok (.aload_n 0, 1) := by decide +kernel
theorem d_Go_sortSomes_53 : decode prog_3_method_14_code 53 = .ok (.getfield 18, 3) := by decide +kernel
theorem d_Go_sortSomes_56 : decode prog_3_method_14_code 56 = .ok (.iload_n 1, 1) := by decide +kernel
theorem d_Go_sortSomes_57 : decode prog_3_method_14_code 57 = .ok (.dup2, 1) := by decide +kernel
theorem d_Go_sortSomes_58 : decode prog_3_method_14_code 58 = .ok (.iaload, 1) := by decide +kernel
theorem d_Go_sortSomes_59 : decode prog_3_method_14_code 59 = .ok (.iload_n 1, 1) := by decide +kernel
theorem d_Go_sortSomes_60 : decode prog_3_method_14_code 60 = .ok (.iload_n 3, 1) := by decide +kernel
theorem d_Go_sortSomes_61 : decode prog_3_method_14_code 61 = .ok (.if_icmp .ne 9, 3) := by decide +kernel
theorem d_Go_sortSomes_64 : decode prog_3_method_14_code 64 = .ok (.iconst 1, 1) := by decide +kernel
theorem d_Go_sortSomes_65 : decode prog_3_method_14_code 65 = .ok (.iload_n 2, 1) := by decide +kernel
theorem d_Go_sortSomes_66 : decode prog_3_method_14_code 66 = .ok (.ishl, 1) := by decide +kernel
theorem d_Go_sortSomes_67 : decode prog_3_method_14_code 67 = .ok (.goto 4, 3) := by decide +kernel
theorem d_Go_sortSomes_70 : decode prog_3_method_14_code 70 = .ok (.iconst 0, 1) := by decide +kernel
theorem d_Go_sortSomes_71 : decode prog_3_method_14_code 71 = .ok (.ior, 1) := by decide +kernel
theorem d_Go_sortSomes_72 : decode prog_3_method_14_code 72 = .ok (.iastore, 1) := by decide +kernel
theorem d_Go_sortSomes_73 : decode prog_3_method_14_code 73 = .ok (.aload_n 0, 1) := by decide +kernel
theorem d_Go_sortSomes_74 : decode prog_3_method_14_code 74 = .ok (.getfield 21, 3) := by decide +kernel
theorem d_Go_sortSomes_77 : decode prog_3_method_14_code 77 = .ok (.iload_n 1, 1) := by decide +kernel
theorem d_Go_sortSomes_78 : decode prog_3_method_14_code 78 = .ok (.dup2, 1) := by decide +kernel
theorem d_Go_sortSomes_79 : decode prog_3_method_14_code 79 = .ok (.iaload, 1) := by decide +kernel
theorem d_Go_sortSomes_80 : decode prog_3_method_14_code 80 = .ok (.aload_n 0, 1) := by decide +kernel
theorem d_Go_sortSomes_81 : decode prog_3_method_14_code 81 = .ok (.getfield 45, 3) := by decide +kernel
theorem d_Go_sortSomes_84 : decode prog_3_method_14_code 84 = .ok (.iload_n 1, 1) := by decide +kernel
theorem d_Go_sortSomes_85 : decode prog_3_method_14_code 85 = .ok (.iload_n 3, 1) := by decide +kernel
theorem d_Go_sortSomes_86 : decode prog_3_method_14_code 86 = .ok (.invokevirtual 101, 3) := by decide +kernel
theorem d_Go_sortSomes_89 : decode prog_3_method_14_code 89 = .ok (.ifCond .eq 9, 3) := by decide +kernel
theorem d_Go_sortSomes_92 : decode prog_3_method_14_code 92 = .ok (.iconst 1, 1) := by decide +kernel
theorem d_Go_sortSomes_93 : decode prog_3_method_14_code 93 = .ok (.iload_n 2, 1) := by decide +kernel
theorem d_Go_sortSomes_94 : decode prog_3_method_14_code 94 = .ok (.ishl, 1) := by decide +kernel
theorem d_Go_sortSomes_95 : decode prog_3_method_14_code 95 = .ok (.goto 4, 3) := by decide +kernel
theorem d_Go_sortSomes_98 : decode prog_3_method_14_code 98 = .ok (.iconst 0, 1) := by decide +kernel
theorem d_Go_sortSomes_99 : decode prog_3_method_14_code 99 = .ok (.ior, 1) := by decide +kernel
theorem d_Go_sortSomes_100 : decode prog_3_method_14_code 100 = .ok (.iastore, 1) := by decide +kernel
theorem d_Go_sortSomes_101 : decode prog_3_method_14_code 101 = .ok (.iinc 2 1, 3) := by decide +kernel
theorem d_Go_sortSomes_104 : decode prog_3_method_14_code 104 = .ok (.goto (-81), 3) := by decide +kernel
theorem d_Go_sortSomes_107 : decode prog_3_method_14_code 107 = .ok (.iinc 1 1, 3) := by decide +kernel
theorem d_Go_sortSomes_110 : decode prog_3_method_14_code 110 = .ok (.goto (-108), 3) := by decide +kernel
theorem d_Go_sortSomes_113 : decode prog_3_method_14_code 113 = .ok (.return_, 1) := by decide +kernel
theorem d_Go_keptByAxioms_0 : decode prog_3_method_16_code 0 = .ok (.lload_n 1, 1) := by decide +kernel
theorem d_Go_keptByAxioms_1 : decode prog_3_method_16_code 1 = .ok (.lstore 4, 2) := by decide +kernel
theorem d_Go_keptByAxioms_3 : decode prog_3_method_16_code 3 = .ok (.iconst 0, 1) := by decide +kernel
theorem d_Go_keptByAxioms_4 : decode prog_3_method_16_code 4 = .ok (.istore 6, 2) := by decide +kernel
theorem d_Go_keptByAxioms_6 : decode prog_3_method_16_code 6 = .ok (.iload 6, 2) := by decide +kernel
theorem d_Go_keptByAxioms_8 : decode prog_3_method_16_code 8 = .ok (.aload_n 0, 1) := by decide +kernel
theorem d_Go_keptByAxioms_9 : decode prog_3_method_16_code 9 = .ok (.getfield 49, 3) := by decide +kernel
theorem d_Go_keptByAxioms_12 : decode prog_3_method_16_code 12 = .ok (.if_icmp .ge 56, 3) := by decide +kernel
theorem d_Go_keptByAxioms_15 : decode prog_3_method_16_code 15 = .ok (.iload 6, 2) := by decide +kernel
theorem d_Go_keptByAxioms_17 : decode prog_3_method_16_code 17 = .ok (.bipush 30, 2) := by decide +kernel
theorem d_Go_keptByAxioms_19 : decode prog_3_method_16_code 19 = .ok (.if_icmp .ge 49, 3) := by decide +kernel
theorem d_Go_keptByAxioms_22 : decode prog_3_method_16_code 22 = .ok (.lload 4, 2) := by decide +kernel
theorem d_Go_keptByAxioms_24 : decode prog_3_method_16_code 24 = .ok (.aload_n 0, 1) := by decide +kernel
theorem d_Go_keptByAxioms_25 : decode prog_3_method_16_code 25 = .ok (.getfield 41, 3) := by decide +kernel
theorem d_Go_keptByAxioms_28 : decode prog_3_method_16_code 28 = .ok (.aload_n 0, 1) := by decide +kernel
theorem d_Go_keptByAxioms_29 : decode prog_3_method_16_code 29 = .ok (.getfield 9, 3) := by decide +kernel
theorem d_Go_keptByAxioms_32 : decode prog_3_method_16_code 32 = .ok (.iload 6, 2) := by decide +kernel
theorem d_Go_keptByAxioms_34 : decode prog_3_method_16_code 34 = .ok (.iaload, 1) := by decide +kernel
theorem d_Go_keptByAxioms_35 : decode prog_3_method_16_code 35 = .ok (.iload_n 3, 1) := by decide +kernel
theorem d_Go_keptByAxioms_36 : decode prog_3_method_16_code 36 = .ok (.invokevirtual 88, 3) := by decide +kernel
theorem d_Go_keptByAxioms_39 : decode prog_3_method_16_code 39 = .ok (.ldc2_w 92, 3) := by decide +kernel
theorem d_Go_keptByAxioms_42 : decode prog_3_method_16_code 42 = .ok (.lxor, 1) := by decide +kernel
theorem d_Go_keptByAxioms_43 : decode prog_3_method_16_code 43 = .ok (.aload_n 0, 1) := by decide +kernel
theorem d_Go_keptByAxioms_44 : decode prog_3_method_16_code 44 = .ok (.getfield 41, 3) := by decide +kernel
theorem d_Go_keptByAxioms_47 : decode prog_3_method_16_code 47 = .ok (.aload_n 0, 1) := by decide +kernel
theorem d_Go_keptByAxioms_48 : decode prog_3_method_16_code 48 = .ok (.getfield 15, 3) := by decide +kernel
theorem d_Go_keptByAxioms_51 : decode prog_3_method_16_code 51 = .ok (.iload 6, 2) := by decide +kernel
theorem d_Go_keptByAxioms_53 : decode prog_3_method_16_code 53 = .ok (.iaload, 1) := by decide +kernel
theorem d_Go_keptByAxioms_54 : decode prog_3_method_16_code 54 = .ok (.iload_n 3, 1) := by decide +kernel
theorem d_Go_keptByAxioms_55 : decode prog_3_method_16_code 55 = .ok (.invokevirtual 88, 3) := by decide +kernel
theorem d_Go_keptByAxioms_58 : decode prog_3_method_16_code 58 = .ok (.lor, 1) := by decide +kernel
theorem d_Go_keptByAxioms_59 : decode prog_3_method_16_code 59 = .ok (.land, 1) := by decide +kernel
theorem d_Go_keptByAxioms_60 : decode prog_3_method_16_code 60 = .ok (.lstore 4, 2) := by decide +kernel
theorem d_Go_keptByAxioms_62 : decode prog_3_method_16_code 62 = .ok (.iinc 6 1, 3) := by decide +kernel
theorem d_Go_keptByAxioms_65 : decode prog_3_method_16_code 65 = .ok (.goto (-59), 3) := by decide +kernel
theorem d_Go_keptByAxioms_68 : decode prog_3_method_16_code 68 = .ok (.lload 4, 2) := by decide +kernel
theorem d_Go_keptByAxioms_70 : decode prog_3_method_16_code 70 = .ok (.lreturn, 1) := by decide +kernel
theorem d_Go_isThere_0 : decode prog_3_method_17_code 0 = .ok (.aload_n 0, 1) := by decide +kernel
theorem d_Go_isThere_1 : decode prog_3_method_17_code 1 = .ok (.getfield 24, 3) := by decide +kernel
theorem d_Go_isThere_4 : decode prog_3_method_17_code 4 = .ok (.iload_n 1, 1) := by decide +kernel
theorem d_Go_isThere_5 : decode prog_3_method_17_code 5 = .ok (.bipush 64, 2) := by decide +kernel
theorem d_Go_isThere_7 : decode prog_3_method_17_code 7 = .ok (.idiv, 1) := by decide +kernel
theorem d_Go_isThere_8 : decode prog_3_method_17_code 8 = .ok (.laload, 1) := by decide +kernel
theorem d_Go_isThere_9 : decode prog_3_method_17_code 9 = .ok (.iload_n 1, 1) := by decide +kernel
theorem d_Go_isThere_10 : decode prog_3_method_17_code 10 = .ok (.bipush 64, 2) := by decide +kernel
theorem d_Go_isThere_12 : decode prog_3_method_17_code 12 = .ok (.irem, 1) := by decide +kernel
theorem d_Go_isThere_13 : decode prog_3_method_17_code 13 = .ok (.invokestatic 123, 3) := by decide +kernel
theorem d_Go_isThere_16 : decode prog_3_method_17_code 16 = .ok (.ireturn, 1) := by decide +kernel
noncomputable def bk_Co_makeAll_0 : List Int32 → List Int64 → tq_S → Option tq_C
  | [x1, x2], [], σ => tq_ob (tq_fI st_Co_find (0, [7, x1, x2], [], σ)) (fun r2 σ3 => if r2 = (-1) then tq_ob (tq_fI st_Co_make (0, [3, x2, 0], [], σ3)) (fun r6 σ7 => if ¬ r6 = (-3) then tq_ob (tq_fI st_Co_make (0, [6, x1, r6], [], σ7)) (fun r10 σ11 => if ¬ r10 = (-3) then tq_ob (tq_fI st_Co_add (0, [7, x1, x2], [], σ11)) (fun r14 σ15 => some (tq_rt, [r14], [], σ15)) else some (tq_rt, [(-3)], [], σ11)) else some (tq_rt, [(-3)], [], σ7)) else some (tq_rt, [r2], [], σ3))
  | _, _, _ => none
noncomputable def st_Co_makeAll (c : tq_C) : Option tq_C := if c.1 = 0 then bk_Co_makeAll_0 c.2.1 c.2.2.1 c.2.2.2 else none
set_option maxHeartbeats 40000000 in
set_option maxRecDepth 100000 in
theorem c_Co_makeAll (l : Launch) (dC : Nat → ClassId) (dI : Nat → Nat → Nat) (cI cL cZ : ClassId) (ad : Nat → Nat) (tt : Nat) (sz : Nat) (σ : tq_S) (a1 : Int32) (a2 : Int32) (r : Int32) (σ' : tq_S) (hf : tq_fI st_Co_makeAll (0, [a1, a2], [], σ) = some (r, σ')) : Met l y_Co_makeAll w_Co_makeAll ({ frames := 5, cells := 0, slots := 0, locals := 122 } : Room) (va_Pc [.ref (ad 1), .int a1, .int a2] (tq_B dC dI cI cL cZ tt (wo cI cL cZ ad σ) sz)) (va_Qi (fun (r' : Int32) (u : tq_S) => r' = r ∧ u = σ') (tq_E dC dI cI cL cZ (wo cI cL cZ ad) (va_A (wo cI cL cZ ad σ) sz)) (va_A (wo cI cL cZ ad σ) sz)) 0 0 (va_A (wo cI cL cZ ad σ) sz) := by
  obtain ⟨n0, h0⟩ := tq_fI_to hf
  refine Met.ofW (cc := prog_2_method_10_code) (maxL := 6) (ret := (some .int)) (by decide) rfl ?_
  intro p e s m args below meth c s₁ B hml hv
  obtain ⟨rfl, hsz, hP, hK, hD0, hZ, hN⟩ := hv
  have hx := B.exec
  have hb := B.bytes
  have hr := B.returns
  have hts : ∀ w ∈ tq_T, w.before _ s = true := fun w h => atoms_spec (ws := w_Co_makeAll) B.pre w (List.mem_cons_of_mem _ h)
  have hown : s.vm.findClass "TableauNodes$Concepts" = some m.cls := findClass_of_methodNamed B.named
  have hlocks := B.notSynchronized
  subst hsz
  have hD := hD0.self (sz := s.heap.size)
  have hS : va_S (va_A (wo cI cL cZ ad σ) s.heap.size) s.heap s.heap [] := va_S.rf
  have hA : ∀ q : Nat, s.heap.size ≤ q → va_A (wo cI cL cZ ad σ) s.heap.size q := fun q h => Or.inr h
  generalize va_A (wo cI cL cZ ad σ) s.heap.size = A at hD hS hA hZ ⊢
  have hl := lv_entry ([.ref (ad 1), .int a1, .int a2]) (n := 6) (Nat.le_of_ble_eq_true rfl)
  rw [lg_entry_eq]
  generalize (lg_sl ([.ref (ad 1), .int a1, .int a2]) ++ List.replicate (6 - (lg_sl ([.ref (ad 1), .int a1, .int a2])).length) Slot.unset).toArray = ls at hl ⊢
  have hl : lv_has ls 6 [(0, .ref (ad 1)), (1, .int a1), (2, .int a2)] := hl
  have key : ∀ n : Nat, (∀ {x1 x2 : Int32} {σ : tq_S} {H : Heap} {locs : List Loc} {ls : Array Slot}, va_P (dC, dI) tq_cl (wo cI cL cZ ad σ) H → va_D A (wo cI cL cZ ad σ) → va_S A s.heap H locs → lv_has ls 6 [(0, .ref (ad 1)), (1, .int x1), (2, .int x2)] → tq_go st_Co_makeAll n (0, [x1, x2], [], σ) = some (tq_rt, [r], [], σ') → W p l e (headSpec w_Co_makeAll ({ frames := 5, cells := 0, slots := 0, locals := 122 } : Room)).room s m ([.ref (ad 1), .int a1, .int a2] : List Value).toArray below meth c H locs 0 0 (MQ below (va_Qi (fun (r' : Int32) (u : tq_S) => r' = r ∧ u = σ') (tq_E dC dI cI cL cZ (wo cI cL cZ ad) A) A) ([.ref (ad 1), .int a1, .int a2] : List Value).toArray s 0 0 A) (F0 m 0 ls [])) := by
    intro n
    induction n with
    | zero => exact fun _ _ _ _ h => by cases h
    | succ n ih =>
      intro x1 x2 σ H locs ls hP hD hS hl h9
      obtain ⟨q9, hg, hn⟩ := tq_go_s h9 (show ¬ (0 : Nat) = tq_rt by decide)
      replace hg : bk_Co_makeAll_0 [x1, x2] [] σ = some q9 := hg
      unfold bk_Co_makeAll_0 at hg
      refine lv_aload_n hx hb d_Co_makeAll_0 rfl (lv_at hl 0 rfl) ?_
      refine lv_bipush (v := 7) hx hb d_Co_makeAll_1 (by decide) ?_
      refine lv_iload_n hx hb d_Co_makeAll_3 rfl (lv_at hl 1 rfl) ?_
      refine lv_iload_n hx hb d_Co_makeAll_4 rfl (lv_at hl 2 rfl) ?_
      obtain ⟨r2, σ3, f1, hg⟩ := tq_ob_s hg
      refine tq_aI (va_runV (As := [.int 7, .int x1, .int x2]) (rest := []) ⟨hx, hb, hml, hown, hts⟩ (c_Co_find l dC dI cI cL cZ ad tt H.size σ 7 x1 x2  r2 σ3 f1) (cwV 3 hts (tq_gV tw_29 tw_31 ts_0 tw_2 tw_32) rfl rfl rfl (by decide +kernel) ⟨Nat.le_of_ble_eq_true rfl, Nat.le_of_ble_eq_true rfl⟩) ⟨tq_bl, va_recv hK hP (ci := 1) (q0 := 1) rfl rfl, (tq_pr hP hK hD hS hA hZ hN)⟩ rfl rfl hl.1 rfl (lv_room (Nat.le_of_ble_eq_true rfl)) d_Co_makeAll_5 ⟨Nat.zero_le _, Nat.zero_le _⟩) hD hS hA (fun H locs hP hD hS => ?_)
      refine lv_istore_n (lv' := [(3, .int r2), (0, .ref (ad 1)), (1, .int x1), (2, .int x2)]) hx hb d_Co_makeAll_8 rfl hl (by decide) rfl (fun ls hl => ?_)
      refine lv_iload_n hx hb d_Co_makeAll_9 rfl (lv_at hl 0 rfl) ?_
      refine lv_iconst (v := (-1)) hx hb d_Co_makeAll_10 (by decide) ?_
      refine lv_icmp_eq (tgt := 16) hx hb d_Co_makeAll_11 (by decide) (fun c4 => ?_) (fun c4 => ?_)
      · replace hg := tq_if_t c4 hg
        refine lv_aload_n hx hb d_Co_makeAll_16 rfl (lv_at hl 1 rfl) ?_
        refine lv_iconst (v := 3) hx hb d_Co_makeAll_17 (by decide) ?_
        refine lv_iload_n hx hb d_Co_makeAll_18 rfl (lv_at hl 3 rfl) ?_
        refine lv_iconst (v := 0) hx hb d_Co_makeAll_19 (by decide) ?_
        obtain ⟨r6, σ7, f5, hg⟩ := tq_ob_s hg
        refine tq_aI (va_runV (As := [.int 3, .int x2, .int 0]) (rest := []) ⟨hx, hb, hml, hown, hts⟩ (c_Co_make l dC dI cI cL cZ ad tt H.size σ3 3 x2 0  r6 σ7 f5) (cwV 3 hts (tq_gV tw_25 tw_26 tw_27 tw_2 tw_28) rfl rfl rfl (by decide +kernel) ⟨Nat.le_of_ble_eq_true rfl, Nat.le_of_ble_eq_true rfl⟩) ⟨tq_bl, va_recv hK hP (ci := 1) (q0 := 1) rfl rfl, (tq_pr hP hK hD hS hA hZ hN)⟩ rfl rfl hl.1 rfl (lv_room (Nat.le_of_ble_eq_true rfl)) d_Co_makeAll_20 ⟨Nat.zero_le _, Nat.zero_le _⟩) hD hS hA (fun H locs hP hD hS => ?_)
        refine lv_istore (lv' := [(4, .int r6), (3, .int r2), (0, .ref (ad 1)), (1, .int x1), (2, .int x2)]) hx hb d_Co_makeAll_23 hl (by decide) rfl (fun ls hl => ?_)
        refine lv_iload hx hb d_Co_makeAll_25 (lv_at hl 0 rfl) ?_
        refine lv_bipush (v := (-3)) hx hb d_Co_makeAll_27 (by decide) ?_
        refine lv_icmp_ne (tgt := 35) hx hb d_Co_makeAll_29 (by decide) (fun c8 => ?_) (fun c8 => ?_)
        · replace hg := tq_if_t c8 hg
          refine lv_aload_n hx hb d_Co_makeAll_35 rfl (lv_at hl 2 rfl) ?_
          refine lv_bipush (v := 6) hx hb d_Co_makeAll_36 (by decide) ?_
          refine lv_iload_n hx hb d_Co_makeAll_38 rfl (lv_at hl 3 rfl) ?_
          refine lv_iload hx hb d_Co_makeAll_39 (lv_at hl 0 rfl) ?_
          obtain ⟨r10, σ11, f9, hg⟩ := tq_ob_s hg
          refine tq_aI (va_runV (As := [.int 6, .int x1, .int r6]) (rest := []) ⟨hx, hb, hml, hown, hts⟩ (c_Co_make l dC dI cI cL cZ ad tt H.size σ7 6 x1 r6  r10 σ11 f9) (cwV 3 hts (tq_gV tw_25 tw_26 tw_27 tw_2 tw_28) rfl rfl rfl (by decide +kernel) ⟨Nat.le_of_ble_eq_true rfl, Nat.le_of_ble_eq_true rfl⟩) ⟨tq_bl, va_recv hK hP (ci := 1) (q0 := 1) rfl rfl, (tq_pr hP hK hD hS hA hZ hN)⟩ rfl rfl hl.1 rfl (lv_room (Nat.le_of_ble_eq_true rfl)) d_Co_makeAll_41 ⟨Nat.zero_le _, Nat.zero_le _⟩) hD hS hA (fun H locs hP hD hS => ?_)
          refine lv_istore (lv' := [(5, .int r10), (4, .int r6), (3, .int r2), (0, .ref (ad 1)), (1, .int x1), (2, .int x2)]) hx hb d_Co_makeAll_44 hl (by decide) rfl (fun ls hl => ?_)
          refine lv_iload hx hb d_Co_makeAll_46 (lv_at hl 0 rfl) ?_
          refine lv_bipush (v := (-3)) hx hb d_Co_makeAll_48 (by decide) ?_
          refine lv_icmp_ne (tgt := 58) hx hb d_Co_makeAll_50 (by decide) (fun c12 => ?_) (fun c12 => ?_)
          · replace hg := tq_if_t c12 hg
            refine lv_aload_n hx hb d_Co_makeAll_58 rfl (lv_at hl 3 rfl) ?_
            refine lv_bipush (v := 7) hx hb d_Co_makeAll_59 (by decide) ?_
            refine lv_iload_n hx hb d_Co_makeAll_61 rfl (lv_at hl 4 rfl) ?_
            refine lv_iload_n hx hb d_Co_makeAll_62 rfl (lv_at hl 5 rfl) ?_
            obtain ⟨r14, σ15, f13, hg⟩ := tq_ob_s hg
            refine tq_aI (va_runV (As := [.int 7, .int x1, .int x2]) (rest := []) ⟨hx, hb, hml, hown, hts⟩ (c_Co_add l dC dI cI cL cZ ad tt H.size σ11 7 x1 x2  r14 σ15 f13) (cwV 3 hts (tq_gV tw_33 tw_35 ts_1 tw_2 tw_36) rfl rfl rfl (by decide +kernel) ⟨Nat.le_of_ble_eq_true rfl, Nat.le_of_ble_eq_true rfl⟩) ⟨tq_bl, va_recv hK hP (ci := 1) (q0 := 1) rfl rfl, (tq_pr hP hK hD hS hA hZ hN)⟩ rfl rfl hl.1 rfl (lv_room (Nat.le_of_ble_eq_true rfl)) d_Co_makeAll_63 ⟨Nat.zero_le _, Nat.zero_le _⟩) hD hS hA (fun H locs hP hD hS => ?_)
            exact W.iret (v := r14) hx hb hr (fun t ht hW => ⟨⟨r14, σ15, rfl, tq_grI hg hn, by rw [ht]; exact hP, va_K.moved hW.alike hK, hD⟩, hS.F ht⟩) hS.2.2 d_Co_makeAll_66
          · replace hg := tq_if_n c12 hg
            refine lv_bipush (v := (-3)) hx hb d_Co_makeAll_53 (by decide) ?_
            refine lv_goto (tgt := 66) hx hb d_Co_makeAll_55 (by decide) ?_
            exact W.iret (v := (-3)) hx hb hr (fun t ht hW => ⟨⟨(-3), σ11, rfl, tq_grI hg hn, by rw [ht]; exact hP, va_K.moved hW.alike hK, hD⟩, hS.F ht⟩) hS.2.2 d_Co_makeAll_66
        · replace hg := tq_if_n c8 hg
          refine lv_bipush (v := (-3)) hx hb d_Co_makeAll_32 (by decide) ?_
          exact W.iret (v := (-3)) hx hb hr (fun t ht hW => ⟨⟨(-3), σ7, rfl, tq_grI hg hn, by rw [ht]; exact hP, va_K.moved hW.alike hK, hD⟩, hS.F ht⟩) hS.2.2 d_Co_makeAll_34
      · replace hg := tq_if_f c4 hg
        refine lv_iload_n hx hb d_Co_makeAll_14 rfl (lv_at hl 0 rfl) ?_
        exact W.iret (v := r2) hx hb hr (fun t ht hW => ⟨⟨r2, σ3, rfl, tq_grI hg hn, by rw [ht]; exact hP, va_K.moved hW.alike hK, hD⟩, hS.F ht⟩) hS.2.2 d_Co_makeAll_15
  exact (key n0) hP hD hS hl h0
noncomputable def bk_Co_part_0 : List Int32 → List Int64 → tq_S → Option tq_C
  | [x1, x2], [], σ => tq_ob (tq_fI st_Co_isThere (0, [x1], [], σ)) (fun r2 σ3 => if ¬ r2 = 0 then if x2 = 0 then tq_gd x1 80 (some (tq_rt, [(ia σ3 0 x1)], [], σ3)) else if x2 = 1 then tq_gd x1 80 (some (tq_rt, [(ia σ3 1 x1)], [], σ3)) else if x2 = 2 then tq_gd x1 80 (some (tq_rt, [(ia σ3 2 x1)], [], σ3)) else some (tq_rt, [(-1)], [], σ3) else some (tq_rt, [(-1)], [], σ3))
  | _, _, _ => none
noncomputable def st_Co_part (c : tq_C) : Option tq_C := if c.1 = 0 then bk_Co_part_0 c.2.1 c.2.2.1 c.2.2.2 else none
set_option maxHeartbeats 40000000 in
set_option maxRecDepth 100000 in
theorem c_Co_part (l : Launch) (dC : Nat → ClassId) (dI : Nat → Nat → Nat) (cI cL cZ : ClassId) (ad : Nat → Nat) (tt : Nat) (sz : Nat) (σ : tq_S) (a1 : Int32) (a2 : Int32) (r : Int32) (σ' : tq_S) (hf : tq_fI st_Co_part (0, [a1, a2], [], σ) = some (r, σ')) : Met l y_Co_part w_Co_part ({ frames := 1, cells := 0, slots := 0, locals := 21 } : Room) (va_Pc [.ref (ad 1), .int a1, .int a2] (tq_B dC dI cI cL cZ tt (wo cI cL cZ ad σ) sz)) (va_Qi (fun (r' : Int32) (u : tq_S) => r' = r ∧ u = σ') (tq_E dC dI cI cL cZ (wo cI cL cZ ad) (va_A (wo cI cL cZ ad σ) sz)) (va_A (wo cI cL cZ ad σ) sz)) 0 0 (va_A (wo cI cL cZ ad σ) sz) := by
  obtain ⟨n0, h0⟩ := tq_fI_to hf
  refine Met.ofW (cc := prog_2_method_8_code) (maxL := 3) (ret := (some .int)) (by decide) rfl ?_
  intro p e s m args below meth c s₁ B hml hv
  obtain ⟨rfl, hsz, hP, hK, hD0, hZ, hN⟩ := hv
  have hx := B.exec
  have hb := B.bytes
  have hr := B.returns
  have hts : ∀ w ∈ tq_T, w.before _ s = true := fun w h => atoms_spec (ws := w_Co_part) B.pre w (List.mem_cons_of_mem _ h)
  have hown : s.vm.findClass "TableauNodes$Concepts" = some m.cls := findClass_of_methodNamed B.named
  have hlocks := B.notSynchronized
  subst hsz
  have hD := hD0.self (sz := s.heap.size)
  have hS : va_S (va_A (wo cI cL cZ ad σ) s.heap.size) s.heap s.heap [] := va_S.rf
  have hA : ∀ q : Nat, s.heap.size ≤ q → va_A (wo cI cL cZ ad σ) s.heap.size q := fun q h => Or.inr h
  generalize va_A (wo cI cL cZ ad σ) s.heap.size = A at hD hS hA hZ ⊢
  have hl := lv_entry ([.ref (ad 1), .int a1, .int a2]) (n := 3) (Nat.le_of_ble_eq_true rfl)
  rw [lg_entry_eq]
  generalize (lg_sl ([.ref (ad 1), .int a1, .int a2]) ++ List.replicate (3 - (lg_sl ([.ref (ad 1), .int a1, .int a2])).length) Slot.unset).toArray = ls at hl ⊢
  have hl : lv_has ls 3 [(0, .ref (ad 1)), (1, .int a1), (2, .int a2)] := hl
  have key : ∀ n : Nat, (∀ {x1 x2 : Int32} {σ : tq_S} {H : Heap} {locs : List Loc} {ls : Array Slot}, va_P (dC, dI) tq_cl (wo cI cL cZ ad σ) H → va_D A (wo cI cL cZ ad σ) → va_S A s.heap H locs → lv_has ls 3 [(0, .ref (ad 1)), (1, .int x1), (2, .int x2)] → tq_go st_Co_part n (0, [x1, x2], [], σ) = some (tq_rt, [r], [], σ') → W p l e (headSpec w_Co_part ({ frames := 1, cells := 0, slots := 0, locals := 21 } : Room)).room s m ([.ref (ad 1), .int a1, .int a2] : List Value).toArray below meth c H locs 0 0 (MQ below (va_Qi (fun (r' : Int32) (u : tq_S) => r' = r ∧ u = σ') (tq_E dC dI cI cL cZ (wo cI cL cZ ad) A) A) ([.ref (ad 1), .int a1, .int a2] : List Value).toArray s 0 0 A) (F0 m 0 ls [])) := by
    intro n
    induction n with
    | zero => exact fun _ _ _ _ h => by cases h
    | succ n ih =>
      intro x1 x2 σ H locs ls hP hD hS hl h9
      obtain ⟨q9, hg, hn⟩ := tq_go_s h9 (show ¬ (0 : Nat) = tq_rt by decide)
      replace hg : bk_Co_part_0 [x1, x2] [] σ = some q9 := hg
      unfold bk_Co_part_0 at hg
      refine lv_aload_n hx hb d_Co_part_0 rfl (lv_at hl 0 rfl) ?_
      refine lv_iload_n hx hb d_Co_part_1 rfl (lv_at hl 1 rfl) ?_
      obtain ⟨r2, σ3, f1, hg⟩ := tq_ob_s hg
      refine tq_aI (va_runV (As := [.int x1]) (rest := []) ⟨hx, hb, hml, hown, hts⟩ (c_Co_isThere l dC dI cI cL cZ ad tt H.size σ x1  r2 σ3 f1) (cwV 1 hts (tq_gV tw_261 tw_246 tw_247 tw_2 tw_248) rfl rfl rfl (by decide +kernel) ⟨Nat.le_of_ble_eq_true rfl, Nat.le_of_ble_eq_true rfl⟩) ⟨tq_bl, va_recv hK hP (ci := 1) (q0 := 1) rfl rfl, (tq_pr hP hK hD hS hA hZ hN)⟩ rfl rfl hl.1 rfl (lv_room (Nat.le_of_ble_eq_true rfl)) d_Co_part_2 ⟨Nat.zero_le _, Nat.zero_le _⟩) hD hS hA (fun H locs hP hD hS => ?_)
      refine lv_if_ne (tgt := 10) hx hb d_Co_part_5 (by decide) (fun c4 => ?_) (fun c4 => ?_)
      · replace hg := tq_if_t c4 hg
        refine lv_iload_n hx hb d_Co_part_10 rfl (lv_at hl 2 rfl) ?_
        by_cases w8_0 : x2 = 0
        · replace hg := tq_if_t w8_0 hg
          refine lv_tableIn (tgt := 36) hx hb d_Co_part_11 (by rw [w8_0]; decide) (by rw [w8_0]; decide) (by rw [w8_0]; rfl) (by decide) ?_
          refine lv_aload_n hx hb d_Co_part_36 rfl (lv_at hl 0 rfl) ?_
          refine va_get (D := (dC, dI)) (ci := 1) (v := .ref (ad 6)) (C := "TableauNodes$Concepts") (T := F_Co) (N := 9) hx hb hts in_Co hown hK hP 1 rfl rfl 0 (by decide) (hts _ tw_63) (fun _ h9 => h9) rfl d_Co_part_37 ?_
          refine lv_iload_n hx hb d_Co_part_40 rfl (lv_at hl 1 rfl) ?_
          obtain ⟨g5, hg⟩ := tq_gd_s hg
          refine va_iald hx hb hK hP 6 0 rfl rfl g5 d_Co_part_41 ?_
          exact W.iret (v := (ia σ3 0 x1)) hx hb hr (fun t ht hW => ⟨⟨(ia σ3 0 x1), σ3, rfl, tq_grI hg hn, by rw [ht]; exact hP, va_K.moved hW.alike hK, hD⟩, hS.F ht⟩) hS.2.2 d_Co_part_42
        replace hg := tq_if_f w8_0 hg
        by_cases w8_1 : x2 = 1
        · replace hg := tq_if_t w8_1 hg
          refine lv_tableIn (tgt := 43) hx hb d_Co_part_11 (by rw [w8_1]; decide) (by rw [w8_1]; decide) (by rw [w8_1]; rfl) (by decide) ?_
          refine lv_aload_n hx hb d_Co_part_43 rfl (lv_at hl 0 rfl) ?_
          refine va_get (D := (dC, dI)) (ci := 1) (v := .ref (ad 7)) (C := "TableauNodes$Concepts") (T := F_Co) (N := 9) hx hb hts in_Co hown hK hP 1 rfl rfl 1 (by decide) (hts _ tw_64) (fun _ h9 => h9) rfl d_Co_part_44 ?_
          refine lv_iload_n hx hb d_Co_part_47 rfl (lv_at hl 1 rfl) ?_
          obtain ⟨g6, hg⟩ := tq_gd_s hg
          refine va_iald hx hb hK hP 7 0 rfl rfl g6 d_Co_part_48 ?_
          exact W.iret (v := (ia σ3 1 x1)) hx hb hr (fun t ht hW => ⟨⟨(ia σ3 1 x1), σ3, rfl, tq_grI hg hn, by rw [ht]; exact hP, va_K.moved hW.alike hK, hD⟩, hS.F ht⟩) hS.2.2 d_Co_part_49
        replace hg := tq_if_f w8_1 hg
        by_cases w8_2 : x2 = 2
        · replace hg := tq_if_t w8_2 hg
          refine lv_tableIn (tgt := 50) hx hb d_Co_part_11 (by rw [w8_2]; decide) (by rw [w8_2]; decide) (by rw [w8_2]; rfl) (by decide) ?_
          refine lv_aload_n hx hb d_Co_part_50 rfl (lv_at hl 0 rfl) ?_
          refine va_get (D := (dC, dI)) (ci := 1) (v := .ref (ad 8)) (C := "TableauNodes$Concepts") (T := F_Co) (N := 9) hx hb hts in_Co hown hK hP 1 rfl rfl 2 (by decide) (hts _ tw_65) (fun _ h9 => h9) rfl d_Co_part_51 ?_
          refine lv_iload_n hx hb d_Co_part_54 rfl (lv_at hl 1 rfl) ?_
          obtain ⟨g7, hg⟩ := tq_gd_s hg
          refine va_iald hx hb hK hP 8 0 rfl rfl g7 d_Co_part_55 ?_
          exact W.iret (v := (ia σ3 2 x1)) hx hb hr (fun t ht hW => ⟨⟨(ia σ3 2 x1), σ3, rfl, tq_grI hg hn, by rw [ht]; exact hP, va_K.moved hW.alike hK, hD⟩, hS.F ht⟩) hS.2.2 d_Co_part_56
        replace hg := tq_if_f w8_2 hg
        refine lv_tableOut (tgt := 57) hx hb d_Co_part_11 (by have q0 := tq_ni w8_0 (a := 0) (by decide); have q1 := tq_ni w8_1 (a := 1) (by decide); have q2 := tq_ni w8_2 (a := 2) (by decide); omega) (by decide) ?_
        refine lv_iconst (v := (-1)) hx hb d_Co_part_57 (by decide) ?_
        exact W.iret (v := (-1)) hx hb hr (fun t ht hW => ⟨⟨(-1), σ3, rfl, tq_grI hg hn, by rw [ht]; exact hP, va_K.moved hW.alike hK, hD⟩, hS.F ht⟩) hS.2.2 d_Co_part_58
      · replace hg := tq_if_n c4 hg
        refine lv_iconst (v := (-1)) hx hb d_Co_part_8 (by decide) ?_
        exact W.iret (v := (-1)) hx hb hr (fun t ht hW => ⟨⟨(-1), σ3, rfl, tq_grI hg hn, by rw [ht]; exact hP, va_K.moved hW.alike hK, hD⟩, hS.F ht⟩) hS.2.2 d_Co_part_9
  exact (key n0) hP hD hS hl h0
noncomputable def bk_Co_size_0 : List Int32 → List Int64 → tq_S → Option tq_C
  | [], [], σ => some (tq_rt, [(σ.2.2 0)], [], σ)
  | _, _, _ => none
noncomputable def st_Co_size (c : tq_C) : Option tq_C := if c.1 = 0 then bk_Co_size_0 c.2.1 c.2.2.1 c.2.2.2 else none
set_option maxHeartbeats 40000000 in
set_option maxRecDepth 100000 in
theorem c_Co_size (l : Launch) (dC : Nat → ClassId) (dI : Nat → Nat → Nat) (cI cL cZ : ClassId) (ad : Nat → Nat) (tt : Nat) (sz : Nat) (σ : tq_S) (r : Int32) (σ' : tq_S) (hf : tq_fI st_Co_size (0, [], [], σ) = some (r, σ')) : Met l y_Co_size w_Co_size ({ frames := 0, cells := 0, slots := 0, locals := 0 } : Room) (va_Pc [.ref (ad 1)] (tq_B dC dI cI cL cZ tt (wo cI cL cZ ad σ) sz)) (va_Qi (fun (r' : Int32) (u : tq_S) => r' = r ∧ u = σ') (tq_E dC dI cI cL cZ (wo cI cL cZ ad) (va_A (wo cI cL cZ ad σ) sz)) (va_A (wo cI cL cZ ad σ) sz)) 0 0 (va_A (wo cI cL cZ ad σ) sz) := by
  obtain ⟨n0, h0⟩ := tq_fI_to hf
  refine Met.ofW (cc := prog_2_method_2_code) (maxL := 1) (ret := (some .int)) (by decide) rfl ?_
  intro p e s m args below meth c s₁ B hml hv
  obtain ⟨rfl, hsz, hP, hK, hD0, hZ, hN⟩ := hv
  have hx := B.exec
  have hb := B.bytes
  have hr := B.returns
  have hts : ∀ w ∈ tq_T, w.before _ s = true := fun w h => atoms_spec (ws := w_Co_size) B.pre w (List.mem_cons_of_mem _ h)
  have hown : s.vm.findClass "TableauNodes$Concepts" = some m.cls := findClass_of_methodNamed B.named
  have hlocks := B.notSynchronized
  subst hsz
  have hD := hD0.self (sz := s.heap.size)
  have hS : va_S (va_A (wo cI cL cZ ad σ) s.heap.size) s.heap s.heap [] := va_S.rf
  have hA : ∀ q : Nat, s.heap.size ≤ q → va_A (wo cI cL cZ ad σ) s.heap.size q := fun q h => Or.inr h
  generalize va_A (wo cI cL cZ ad σ) s.heap.size = A at hD hS hA hZ ⊢
  have hl := lv_entry ([.ref (ad 1)]) (n := 1) (Nat.le_of_ble_eq_true rfl)
  rw [lg_entry_eq]
  generalize (lg_sl ([.ref (ad 1)]) ++ List.replicate (1 - (lg_sl ([.ref (ad 1)])).length) Slot.unset).toArray = ls at hl ⊢
  have hl : lv_has ls 1 [(0, .ref (ad 1))] := hl
  have key : ∀ n : Nat, (∀ {σ : tq_S} {H : Heap} {locs : List Loc} {ls : Array Slot}, va_P (dC, dI) tq_cl (wo cI cL cZ ad σ) H → va_D A (wo cI cL cZ ad σ) → va_S A s.heap H locs → lv_has ls 1 [(0, .ref (ad 1))] → tq_go st_Co_size n (0, [], [], σ) = some (tq_rt, [r], [], σ') → W p l e (headSpec w_Co_size ({ frames := 0, cells := 0, slots := 0, locals := 0 } : Room)).room s m ([.ref (ad 1)] : List Value).toArray below meth c H locs 0 0 (MQ below (va_Qi (fun (r' : Int32) (u : tq_S) => r' = r ∧ u = σ') (tq_E dC dI cI cL cZ (wo cI cL cZ ad) A) A) ([.ref (ad 1)] : List Value).toArray s 0 0 A) (F0 m 0 ls [])) := by
    intro n
    induction n with
    | zero => exact fun _ _ _ _ h => by cases h
    | succ n ih =>
      intro  σ H locs ls hP hD hS hl h9
      obtain ⟨q9, hg, hn⟩ := tq_go_s h9 (show ¬ (0 : Nat) = tq_rt by decide)
      replace hg : bk_Co_size_0 [] [] σ = some q9 := hg
      unfold bk_Co_size_0 at hg
      refine lv_aload_n hx hb d_Co_size_0 rfl (lv_at hl 0 rfl) ?_
      refine va_get (D := (dC, dI)) (ci := 1) (v := .int (σ.2.2 0)) (C := "TableauNodes$Concepts") (T := F_Co) (N := 9) hx hb hts in_Co hown hK hP 1 rfl rfl 7 (by decide) (hts _ tw_70) (fun _ h9 => h9) rfl d_Co_size_1 ?_
      exact W.iret (v := (σ.2.2 0)) hx hb hr (fun t ht hW => ⟨⟨(σ.2.2 0), σ, rfl, tq_grI hg hn, by rw [ht]; exact hP, va_K.moved hW.alike hK, hD⟩, hS.F ht⟩) hS.2.2 d_Co_size_4
  exact (key n0) hP hD hS hl h0
noncomputable def bk_Co_atomCount_0 : List Int32 → List Int64 → tq_S → Option tq_C
  | [], [], σ => some (tq_rt, [(σ.2.2 1)], [], σ)
  | _, _, _ => none
noncomputable def st_Co_atomCount (c : tq_C) : Option tq_C := if c.1 = 0 then bk_Co_atomCount_0 c.2.1 c.2.2.1 c.2.2.2 else none
set_option maxHeartbeats 40000000 in
set_option maxRecDepth 100000 in
theorem c_Co_atomCount (l : Launch) (dC : Nat → ClassId) (dI : Nat → Nat → Nat) (cI cL cZ : ClassId) (ad : Nat → Nat) (tt : Nat) (sz : Nat) (σ : tq_S) (r : Int32) (σ' : tq_S) (hf : tq_fI st_Co_atomCount (0, [], [], σ) = some (r, σ')) : Met l y_Co_atomCount w_Co_atomCount ({ frames := 0, cells := 0, slots := 0, locals := 0 } : Room) (va_Pc [.ref (ad 1)] (tq_B dC dI cI cL cZ tt (wo cI cL cZ ad σ) sz)) (va_Qi (fun (r' : Int32) (u : tq_S) => r' = r ∧ u = σ') (tq_E dC dI cI cL cZ (wo cI cL cZ ad) (va_A (wo cI cL cZ ad σ) sz)) (va_A (wo cI cL cZ ad σ) sz)) 0 0 (va_A (wo cI cL cZ ad σ) sz) := by
  obtain ⟨n0, h0⟩ := tq_fI_to hf
  refine Met.ofW (cc := prog_2_method_3_code) (maxL := 1) (ret := (some .int)) (by decide) rfl ?_
  intro p e s m args below meth c s₁ B hml hv
  obtain ⟨rfl, hsz, hP, hK, hD0, hZ, hN⟩ := hv
  have hx := B.exec
  have hb := B.bytes
  have hr := B.returns
  have hts : ∀ w ∈ tq_T, w.before _ s = true := fun w h => atoms_spec (ws := w_Co_atomCount) B.pre w (List.mem_cons_of_mem _ h)
  have hown : s.vm.findClass "TableauNodes$Concepts" = some m.cls := findClass_of_methodNamed B.named
  have hlocks := B.notSynchronized
  subst hsz
  have hD := hD0.self (sz := s.heap.size)
  have hS : va_S (va_A (wo cI cL cZ ad σ) s.heap.size) s.heap s.heap [] := va_S.rf
  have hA : ∀ q : Nat, s.heap.size ≤ q → va_A (wo cI cL cZ ad σ) s.heap.size q := fun q h => Or.inr h
  generalize va_A (wo cI cL cZ ad σ) s.heap.size = A at hD hS hA hZ ⊢
  have hl := lv_entry ([.ref (ad 1)]) (n := 1) (Nat.le_of_ble_eq_true rfl)
  rw [lg_entry_eq]
  generalize (lg_sl ([.ref (ad 1)]) ++ List.replicate (1 - (lg_sl ([.ref (ad 1)])).length) Slot.unset).toArray = ls at hl ⊢
  have hl : lv_has ls 1 [(0, .ref (ad 1))] := hl
  have key : ∀ n : Nat, (∀ {σ : tq_S} {H : Heap} {locs : List Loc} {ls : Array Slot}, va_P (dC, dI) tq_cl (wo cI cL cZ ad σ) H → va_D A (wo cI cL cZ ad σ) → va_S A s.heap H locs → lv_has ls 1 [(0, .ref (ad 1))] → tq_go st_Co_atomCount n (0, [], [], σ) = some (tq_rt, [r], [], σ') → W p l e (headSpec w_Co_atomCount ({ frames := 0, cells := 0, slots := 0, locals := 0 } : Room)).room s m ([.ref (ad 1)] : List Value).toArray below meth c H locs 0 0 (MQ below (va_Qi (fun (r' : Int32) (u : tq_S) => r' = r ∧ u = σ') (tq_E dC dI cI cL cZ (wo cI cL cZ ad) A) A) ([.ref (ad 1)] : List Value).toArray s 0 0 A) (F0 m 0 ls [])) := by
    intro n
    induction n with
    | zero => exact fun _ _ _ _ h => by cases h
    | succ n ih =>
      intro  σ H locs ls hP hD hS hl h9
      obtain ⟨q9, hg, hn⟩ := tq_go_s h9 (show ¬ (0 : Nat) = tq_rt by decide)
      replace hg : bk_Co_atomCount_0 [] [] σ = some q9 := hg
      unfold bk_Co_atomCount_0 at hg
      refine lv_aload_n hx hb d_Co_atomCount_0 rfl (lv_at hl 0 rfl) ?_
      refine va_get (D := (dC, dI)) (ci := 1) (v := .int (σ.2.2 1)) (C := "TableauNodes$Concepts") (T := F_Co) (N := 9) hx hb hts in_Co hown hK hP 1 rfl rfl 8 (by decide) (hts _ tw_71) (fun _ h9 => h9) rfl d_Co_atomCount_1 ?_
      exact W.iret (v := (σ.2.2 1)) hx hb hr (fun t ht hW => ⟨⟨(σ.2.2 1), σ, rfl, tq_grI hg hn, by rw [ht]; exact hP, va_K.moved hW.alike hK, hD⟩, hS.F ht⟩) hS.2.2 d_Co_atomCount_4
  exact (key n0) hP hD hS hl h0
noncomputable def bk_Ro_close_0 : List Int32 → List Int64 → tq_S → Option tq_C
  | [], [], σ => some (2, [0], [], σ)
  | _, _, _ => none
noncomputable def bk_Ro_close_2 : List Int32 → List Int64 → tq_S → Option tq_C
  | [x1], [], σ => if 4 ≤ x1 then some (31, [0], [], σ) else tq_gd x1 4 (tq_gd x1 4 (tq_lj (iput σ 6 x1.toNatClampNeg ((ia σ 5 x1) ||| (1 <<< (x1 &&& 31)))) (fun σ4 => tq_lj (x1 + 1) (fun v5 => some (2, [v5], [], σ4)))))
  | _, _, _ => none
noncomputable def bk_Ro_close_31 : List Int32 → List Int64 → tq_S → Option tq_C
  | [x1], [], σ => if 4 ≤ x1 then some (tq_rt, [], [], σ) else some (38, [x1, 0], [], σ)
  | _, _, _ => none
noncomputable def bk_Ro_close_38 : List Int32 → List Int64 → tq_S → Option tq_C
  | [x1, x2], [], σ => if 4 ≤ x2 then tq_lj (x1 + 1) (fun v8 => some (31, [v8], [], σ)) else tq_gd x2 4 (tq_ob (tq_fI st_Tn_hasBit (0, [x1], [(ia σ 6 x2).toInt64], σ)) (fun r11 σ12 => if r11 = 0 then tq_lj (x2 + 1) (fun v14 => some (38, [x1, v14], [], σ12)) else tq_gd x2 4 (tq_gd x1 4 (tq_gd x2 4 (tq_lj (iput σ12 6 x2.toNatClampNeg ((ia σ12 6 x2) ||| (ia σ12 6 x1))) (fun σ18 => tq_lj (x2 + 1) (fun v19 => some (38, [x1, v19], [], σ18))))))))
  | _, _, _ => none
noncomputable def st_Ro_close (c : tq_C) : Option tq_C := if c.1 = 0 then bk_Ro_close_0 c.2.1 c.2.2.1 c.2.2.2 else if c.1 = 2 then bk_Ro_close_2 c.2.1 c.2.2.1 c.2.2.2 else if c.1 = 31 then bk_Ro_close_31 c.2.1 c.2.2.1 c.2.2.2 else if c.1 = 38 then bk_Ro_close_38 c.2.1 c.2.2.1 c.2.2.2 else none
set_option maxHeartbeats 40000000 in
set_option maxRecDepth 100000 in
theorem c_Ro_close (l : Launch) (dC : Nat → ClassId) (dI : Nat → Nat → Nat) (cI cL cZ : ClassId) (ad : Nat → Nat) (tt : Nat) (sz : Nat) (σ : tq_S) (σ' : tq_S) (hf : tq_fV st_Ro_close (0, [], [], σ) = some ((), σ')) : Met l y_Ro_close w_Ro_close ({ frames := 1, cells := 0, slots := 0, locals := 22 } : Room) (va_Pc [.ref (ad 2)] (tq_B dC dI cI cL cZ tt (wo cI cL cZ ad σ) sz)) (va_Qv (fun (u : tq_S) => u = σ') (tq_E dC dI cI cL cZ (wo cI cL cZ ad) (va_A (wo cI cL cZ ad σ) sz)) (va_A (wo cI cL cZ ad σ) sz)) 0 0 (va_A (wo cI cL cZ ad σ) sz) := by
  obtain ⟨n0, h0⟩ := tq_fV_to hf
  refine Met.ofW (cc := prog_4_method_4_code) (maxL := 3) (ret := none) (by decide) rfl ?_
  intro p e s m args below meth c s₁ B hml hv
  obtain ⟨rfl, hsz, hP, hK, hD0, hZ, hN⟩ := hv
  have hx := B.exec
  have hb := B.bytes
  have hr := B.returns
  have hts : ∀ w ∈ tq_T, w.before _ s = true := fun w h => atoms_spec (ws := w_Ro_close) B.pre w (List.mem_cons_of_mem _ h)
  have hown : s.vm.findClass "TableauNodes$Roles" = some m.cls := findClass_of_methodNamed B.named
  have hlocks := B.notSynchronized
  subst hsz
  have hD := hD0.self (sz := s.heap.size)
  have hS : va_S (va_A (wo cI cL cZ ad σ) s.heap.size) s.heap s.heap [] := va_S.rf
  have hA : ∀ q : Nat, s.heap.size ≤ q → va_A (wo cI cL cZ ad σ) s.heap.size q := fun q h => Or.inr h
  generalize va_A (wo cI cL cZ ad σ) s.heap.size = A at hD hS hA hZ ⊢
  have hl := lv_entry ([.ref (ad 2)]) (n := 3) (Nat.le_of_ble_eq_true rfl)
  rw [lg_entry_eq]
  generalize (lg_sl ([.ref (ad 2)]) ++ List.replicate (3 - (lg_sl ([.ref (ad 2)])).length) Slot.unset).toArray = ls at hl ⊢
  have hl : lv_has ls 3 [(0, .ref (ad 2))] := hl
  have key : ∀ n : Nat, (∀ {σ : tq_S} {H : Heap} {locs : List Loc} {ls : Array Slot}, va_P (dC, dI) tq_cl (wo cI cL cZ ad σ) H → va_D A (wo cI cL cZ ad σ) → va_S A s.heap H locs → lv_has ls 3 [(0, .ref (ad 2))] → tq_go st_Ro_close n (0, [], [], σ) = some (tq_rt, [], [], σ') → W p l e (headSpec w_Ro_close ({ frames := 1, cells := 0, slots := 0, locals := 22 } : Room)).room s m ([.ref (ad 2)] : List Value).toArray below meth c H locs 0 0 (MQ below (va_Qv (fun (u : tq_S) => u = σ') (tq_E dC dI cI cL cZ (wo cI cL cZ ad) A) A) ([.ref (ad 2)] : List Value).toArray s 0 0 A) (F0 m 0 ls [])) ∧ (∀ {x1 : Int32} {σ : tq_S} {H : Heap} {locs : List Loc} {ls : Array Slot}, va_P (dC, dI) tq_cl (wo cI cL cZ ad σ) H → va_D A (wo cI cL cZ ad σ) → va_S A s.heap H locs → lv_has ls 3 [(0, .ref (ad 2)), (1, .int x1)] → tq_go st_Ro_close n (2, [x1], [], σ) = some (tq_rt, [], [], σ') → W p l e (headSpec w_Ro_close ({ frames := 1, cells := 0, slots := 0, locals := 22 } : Room)).room s m ([.ref (ad 2)] : List Value).toArray below meth c H locs 0 0 (MQ below (va_Qv (fun (u : tq_S) => u = σ') (tq_E dC dI cI cL cZ (wo cI cL cZ ad) A) A) ([.ref (ad 2)] : List Value).toArray s 0 0 A) (F0 m 2 ls [])) ∧ (∀ {x1 : Int32} {σ : tq_S} {H : Heap} {locs : List Loc} {ls : Array Slot}, va_P (dC, dI) tq_cl (wo cI cL cZ ad σ) H → va_D A (wo cI cL cZ ad σ) → va_S A s.heap H locs → lv_has ls 3 [(0, .ref (ad 2)), (1, .int x1)] → tq_go st_Ro_close n (31, [x1], [], σ) = some (tq_rt, [], [], σ') → W p l e (headSpec w_Ro_close ({ frames := 1, cells := 0, slots := 0, locals := 22 } : Room)).room s m ([.ref (ad 2)] : List Value).toArray below meth c H locs 0 0 (MQ below (va_Qv (fun (u : tq_S) => u = σ') (tq_E dC dI cI cL cZ (wo cI cL cZ ad) A) A) ([.ref (ad 2)] : List Value).toArray s 0 0 A) (F0 m 31 ls [])) ∧ (∀ {x1 x2 : Int32} {σ : tq_S} {H : Heap} {locs : List Loc} {ls : Array Slot}, va_P (dC, dI) tq_cl (wo cI cL cZ ad σ) H → va_D A (wo cI cL cZ ad σ) → va_S A s.heap H locs → lv_has ls 3 [(0, .ref (ad 2)), (1, .int x1), (2, .int x2)] → tq_go st_Ro_close n (38, [x1, x2], [], σ) = some (tq_rt, [], [], σ') → W p l e (headSpec w_Ro_close ({ frames := 1, cells := 0, slots := 0, locals := 22 } : Room)).room s m ([.ref (ad 2)] : List Value).toArray below meth c H locs 0 0 (MQ below (va_Qv (fun (u : tq_S) => u = σ') (tq_E dC dI cI cL cZ (wo cI cL cZ ad) A) A) ([.ref (ad 2)] : List Value).toArray s 0 0 A) (F0 m 38 ls [])) := by
    intro n
    induction n with
    | zero => exact ⟨(fun _ _ _ _ h => by cases h), (fun _ _ _ _ h => by cases h), (fun _ _ _ _ h => by cases h), (fun _ _ _ _ h => by cases h)⟩
    | succ n ih =>
      refine ⟨?_, ?_, ?_, ?_⟩
      · intro  σ H locs ls hP hD hS hl h9
        obtain ⟨q9, hg, hn⟩ := tq_go_s h9 (show ¬ (0 : Nat) = tq_rt by decide)
        replace hg : bk_Ro_close_0 [] [] σ = some q9 := hg
        unfold bk_Ro_close_0 at hg
        refine lv_iconst (v := 0) hx hb d_Ro_close_0 (by decide) ?_
        refine lv_istore_n (lv' := [(1, .int 0), (0, .ref (ad 2))]) hx hb d_Ro_close_1 rfl hl (by decide) rfl (fun ls hl => ?_)
        exact ih.2.1 hP hD hS (lv_sub hl [1, 0] rfl) (tq_gi hg hn)
      · intro x1 σ H locs ls hP hD hS hl h9
        obtain ⟨q9, hg, hn⟩ := tq_go_s h9 (show ¬ (2 : Nat) = tq_rt by decide)
        replace hg : bk_Ro_close_2 [x1] [] σ = some q9 := hg
        unfold bk_Ro_close_2 at hg
        refine lv_iload_n hx hb d_Ro_close_2 rfl (lv_at hl 1 rfl) ?_
        refine lv_iconst (v := 4) hx hb d_Ro_close_3 (by decide) ?_
        refine lv_icmp_ge (tgt := 29) hx hb d_Ro_close_4 (by decide) (fun c1 => ?_) (fun c1 => ?_)
        · replace hg := tq_if_t c1 hg
          refine lv_iconst (v := 0) hx hb d_Ro_close_29 (by decide) ?_
          refine lv_istore_n (lv' := [(1, .int 0), (0, .ref (ad 2))]) hx hb d_Ro_close_30 rfl hl (by decide) rfl (fun ls hl => ?_)
          exact ih.2.2.1 hP hD hS (lv_sub hl [1, 0] rfl) (tq_gi hg hn)
        · replace hg := tq_if_f c1 hg
          refine lv_aload_n hx hb d_Ro_close_7 rfl (lv_at hl 0 rfl) ?_
          refine va_get (D := (dC, dI)) (ci := 2) (v := .ref (ad 14)) (C := "TableauNodes$Roles") (T := F_Ro) (N := 2) hx hb hts in_Ro hown hK hP 2 rfl rfl 1 (by decide) (hts _ tw_105) (fun _ h9 => h9) rfl d_Ro_close_8 ?_
          refine lv_iload_n hx hb d_Ro_close_11 rfl (lv_at hl 1 rfl) ?_
          refine lv_aload_n hx hb d_Ro_close_12 rfl (lv_at hl 0 rfl) ?_
          refine va_get (D := (dC, dI)) (ci := 2) (v := .ref (ad 13)) (C := "TableauNodes$Roles") (T := F_Ro) (N := 2) hx hb hts in_Ro hown hK hP 2 rfl rfl 0 (by decide) (hts _ tw_104) (fun _ h9 => h9) rfl d_Ro_close_13 ?_
          refine lv_iload_n hx hb d_Ro_close_16 rfl (lv_at hl 1 rfl) ?_
          obtain ⟨g2, hg⟩ := tq_gd_s hg
          refine va_iald hx hb hK hP 13 0 rfl rfl g2 d_Ro_close_17 ?_
          refine lv_iconst (v := 1) hx hb d_Ro_close_18 (by decide) ?_
          refine lv_iload_n hx hb d_Ro_close_19 rfl (lv_at hl 1 rfl) ?_
          refine lv_ishl hx hb d_Ro_close_20 ?_
          refine lv_ior hx hb d_Ro_close_21 ?_
          obtain ⟨g3, hg⟩ := tq_gd_s hg
          refine va_iast hx hb hK hP hD hS 14 0 rfl rfl g3 d_Ro_close_22 (fun H locs hP hD hS => ?_)
          obtain ⟨σ4, eσ4, hg⟩ := tq_lj_s hg
          replace hP : va_P (dC, dI) tq_cl (wo cI cL cZ ad σ4) H := by rw [eσ4, ← ws_i6]; exact hP
          replace hD : va_D A (wo cI cL cZ ad σ4) := by rw [eσ4, ← ws_i6]; exact hD
          obtain ⟨v5, ev5, hg⟩ := tq_lj_s hg
          refine lv_iinc (v := v5) (lv' := [(1, .int v5), (0, .ref (ad 2))]) hx hb d_Ro_close_23 hl (k := 1) rfl (by rw [ev5]; rfl) (by decide) rfl (fun ls hl => ?_)
          refine lv_goto (tgt := 2) hx hb d_Ro_close_26 (by decide) ?_
          exact ih.2.1 hP hD hS (lv_sub hl [1, 0] rfl) (tq_gi hg hn)
      · intro x1 σ H locs ls hP hD hS hl h9
        obtain ⟨q9, hg, hn⟩ := tq_go_s h9 (show ¬ (31 : Nat) = tq_rt by decide)
        replace hg : bk_Ro_close_31 [x1] [] σ = some q9 := hg
        unfold bk_Ro_close_31 at hg
        refine lv_iload_n hx hb d_Ro_close_31 rfl (lv_at hl 1 rfl) ?_
        refine lv_iconst (v := 4) hx hb d_Ro_close_32 (by decide) ?_
        refine lv_icmp_ge (tgt := 84) hx hb d_Ro_close_33 (by decide) (fun c6 => ?_) (fun c6 => ?_)
        · replace hg := tq_if_t c6 hg
          exact W.vret hx hb hr (fun t ht hW => ⟨⟨σ, rfl, tq_grV hg hn, by rw [ht]; exact hP, va_K.moved hW.alike hK, hD⟩, hS.F ht⟩) hS.2.2 d_Ro_close_84
        · replace hg := tq_if_f c6 hg
          refine lv_iconst (v := 0) hx hb d_Ro_close_36 (by decide) ?_
          refine lv_istore_n (lv' := [(2, .int 0), (0, .ref (ad 2)), (1, .int x1)]) hx hb d_Ro_close_37 rfl hl (by decide) rfl (fun ls hl => ?_)
          exact ih.2.2.2 hP hD hS (lv_sub hl [1, 2, 0] rfl) (tq_gi hg hn)
      · intro x1 x2 σ H locs ls hP hD hS hl h9
        obtain ⟨q9, hg, hn⟩ := tq_go_s h9 (show ¬ (38 : Nat) = tq_rt by decide)
        replace hg : bk_Ro_close_38 [x1, x2] [] σ = some q9 := hg
        unfold bk_Ro_close_38 at hg
        refine lv_iload_n hx hb d_Ro_close_38 rfl (lv_at hl 2 rfl) ?_
        refine lv_iconst (v := 4) hx hb d_Ro_close_39 (by decide) ?_
        refine lv_icmp_ge (tgt := 78) hx hb d_Ro_close_40 (by decide) (fun c7 => ?_) (fun c7 => ?_)
        · replace hg := tq_if_t c7 hg
          obtain ⟨v8, ev8, hg⟩ := tq_lj_s hg
          refine lv_iinc (v := v8) (lv' := [(1, .int v8), (0, .ref (ad 2)), (2, .int x2)]) hx hb d_Ro_close_78 hl (k := 1) rfl (by rw [ev8]; rfl) (by decide) rfl (fun ls hl => ?_)
          refine lv_goto (tgt := 31) hx hb d_Ro_close_81 (by decide) ?_
          exact ih.2.2.1 hP hD hS (lv_sub hl [1, 0] rfl) (tq_gi hg hn)
        · replace hg := tq_if_f c7 hg
          refine lv_aload_n hx hb d_Ro_close_43 rfl (lv_at hl 0 rfl) ?_
          refine va_get (D := (dC, dI)) (ci := 2) (v := .ref (ad 14)) (C := "TableauNodes$Roles") (T := F_Ro) (N := 2) hx hb hts in_Ro hown hK hP 2 rfl rfl 1 (by decide) (hts _ tw_105) (fun _ h9 => h9) rfl d_Ro_close_44 ?_
          refine lv_iload_n hx hb d_Ro_close_47 rfl (lv_at hl 2 rfl) ?_
          obtain ⟨g9, hg⟩ := tq_gd_s hg
          refine va_iald hx hb hK hP 14 0 rfl rfl g9 d_Ro_close_48 ?_
          refine lv_i2l hx hb d_Ro_close_49 rfl ?_
          refine lv_iload_n hx hb d_Ro_close_50 rfl (lv_at hl 1 rfl) ?_
          obtain ⟨r11, σ12, f10, hg⟩ := tq_ob_s hg
          refine tq_aI (va_runSN (As := [.long ((ia σ 6 x2).toInt64), .int x1]) (rest := []) ⟨hx, hb, hml, hown, hts⟩ (c_Tn_hasBit l dC dI cI cL cZ ad tt H.size σ x1 ((ia σ 6 x2).toInt64) r11 σ12 f10) ⟨va_cnB 2 hts (tq_gC tw_62) rfl rfl rfl (hN _ (List.mem_of_getElem? (i := 1) rfl)) (hts _ tw_1) (by decide +kernel) ⟨Nat.le_of_ble_eq_true rfl, Nat.le_of_ble_eq_true rfl⟩, hts _ tw_61, trivial⟩ ⟨tq_bl, (tq_pr hP hK hD hS hA hZ hN)⟩ rfl rfl hl.1 rfl (lv_room (Nat.le_of_ble_eq_true rfl)) d_Ro_close_51 ⟨Nat.zero_le _, Nat.zero_le _⟩) hD hS hA (fun H locs hP hD hS => ?_)
          refine lv_if_eq (tgt := 72) hx hb d_Ro_close_54 (by decide) (fun c13 => ?_) (fun c13 => ?_)
          · replace hg := tq_if_t c13 hg
            obtain ⟨v14, ev14, hg⟩ := tq_lj_s hg
            refine lv_iinc (v := v14) (lv' := [(2, .int v14), (0, .ref (ad 2)), (1, .int x1)]) hx hb d_Ro_close_72 hl (k := 2) rfl (by rw [ev14]; rfl) (by decide) rfl (fun ls hl => ?_)
            refine lv_goto (tgt := 38) hx hb d_Ro_close_75 (by decide) ?_
            exact ih.2.2.2 hP hD hS (lv_sub hl [1, 2, 0] rfl) (tq_gi hg hn)
          · replace hg := tq_if_f c13 hg
            refine lv_aload_n hx hb d_Ro_close_57 rfl (lv_at hl 0 rfl) ?_
            refine va_get (D := (dC, dI)) (ci := 2) (v := .ref (ad 14)) (C := "TableauNodes$Roles") (T := F_Ro) (N := 2) hx hb hts in_Ro hown hK hP 2 rfl rfl 1 (by decide) (hts _ tw_105) (fun _ h9 => h9) rfl d_Ro_close_58 ?_
            refine lv_iload_n hx hb d_Ro_close_61 rfl (lv_at hl 2 rfl) ?_
            refine lv_dup2_11 hx hb d_Ro_close_62 rfl rfl ?_
            obtain ⟨g15, hg⟩ := tq_gd_s hg
            refine va_iald hx hb hK hP 14 0 rfl rfl g15 d_Ro_close_63 ?_
            refine lv_aload_n hx hb d_Ro_close_64 rfl (lv_at hl 0 rfl) ?_
            refine va_get (D := (dC, dI)) (ci := 2) (v := .ref (ad 14)) (C := "TableauNodes$Roles") (T := F_Ro) (N := 2) hx hb hts in_Ro hown hK hP 2 rfl rfl 1 (by decide) (hts _ tw_105) (fun _ h9 => h9) rfl d_Ro_close_65 ?_
            refine lv_iload_n hx hb d_Ro_close_68 rfl (lv_at hl 1 rfl) ?_
            obtain ⟨g16, hg⟩ := tq_gd_s hg
            refine va_iald hx hb hK hP 14 0 rfl rfl g16 d_Ro_close_69 ?_
            refine lv_ior hx hb d_Ro_close_70 ?_
            obtain ⟨g17, hg⟩ := tq_gd_s hg
            refine va_iast hx hb hK hP hD hS 14 0 rfl rfl g17 d_Ro_close_71 (fun H locs hP hD hS => ?_)
            obtain ⟨σ18, eσ18, hg⟩ := tq_lj_s hg
            replace hP : va_P (dC, dI) tq_cl (wo cI cL cZ ad σ18) H := by rw [eσ18, ← ws_i6]; exact hP
            replace hD : va_D A (wo cI cL cZ ad σ18) := by rw [eσ18, ← ws_i6]; exact hD
            obtain ⟨v19, ev19, hg⟩ := tq_lj_s hg
            refine lv_iinc (v := v19) (lv' := [(2, .int v19), (0, .ref (ad 2)), (1, .int x1)]) hx hb d_Ro_close_72 hl (k := 2) rfl (by rw [ev19]; rfl) (by decide) rfl (fun ls hl => ?_)
            refine lv_goto (tgt := 38) hx hb d_Ro_close_75 (by decide) ?_
            exact ih.2.2.2 hP hD hS (lv_sub hl [1, 2, 0] rfl) (tq_gi hg hn)
  exact (key n0).1 hP hD hS hl h0
noncomputable def bk_Ro_say_0 : List Int32 → List Int64 → tq_S → Option tq_C
  | [x1, x2], [], σ => tq_ob (tq_fI st_Tn_isBelow (0, [x1, 4], [], σ)) (fun r2 σ3 => if r2 = 0 then some (tq_rt, [0], [], σ3) else tq_gd x1 4 (tq_ob (tq_fI st_Tn_hasBit (0, [x2], [(ia σ3 5 x1).toInt64], σ3)) (fun r7 σ8 => if r7 = 0 then tq_gd x1 4 (tq_gd x1 4 (tq_lj (iput σ8 5 x1.toNatClampNeg ((ia σ8 5 x1) ||| (1 <<< (x2 &&& 31)))) (fun σ12 => tq_ob (tq_fV st_Ro_close (0, [], [], σ12)) (fun _ σ15 => some (tq_rt, [1], [], σ15))))) else some (tq_rt, [0], [], σ8))))
  | _, _, _ => none
noncomputable def st_Ro_say (c : tq_C) : Option tq_C := if c.1 = 0 then bk_Ro_say_0 c.2.1 c.2.2.1 c.2.2.2 else none
set_option maxHeartbeats 40000000 in
set_option maxRecDepth 100000 in
theorem c_Ro_say (l : Launch) (dC : Nat → ClassId) (dI : Nat → Nat → Nat) (cI cL cZ : ClassId) (ad : Nat → Nat) (tt : Nat) (sz : Nat) (σ : tq_S) (a1 : Int32) (a2 : Int32) (r : Int32) (σ' : tq_S) (hf : tq_fI st_Ro_say (0, [a1, a2], [], σ) = some (r, σ')) : Met l y_Ro_say w_Ro_say ({ frames := 2, cells := 0, slots := 0, locals := 44 } : Room) (va_Pc [.ref (ad 2), .int a1, .int a2] (tq_B dC dI cI cL cZ tt (wo cI cL cZ ad σ) sz)) (va_Qi (fun (r' : Int32) (u : tq_S) => r' = r ∧ u = σ') (tq_E dC dI cI cL cZ (wo cI cL cZ ad) (va_A (wo cI cL cZ ad σ) sz)) (va_A (wo cI cL cZ ad σ) sz)) 0 0 (va_A (wo cI cL cZ ad σ) sz) := by
  obtain ⟨n0, h0⟩ := tq_fI_to hf
  refine Met.ofW (cc := prog_4_method_2_code) (maxL := 3) (ret := (some .boolean)) (by decide) rfl ?_
  intro p e s m args below meth c s₁ B hml hv
  obtain ⟨rfl, hsz, hP, hK, hD0, hZ, hN⟩ := hv
  have hx := B.exec
  have hb := B.bytes
  have hr := B.returns
  have hts : ∀ w ∈ tq_T, w.before _ s = true := fun w h => atoms_spec (ws := w_Ro_say) B.pre w (List.mem_cons_of_mem _ h)
  have hown : s.vm.findClass "TableauNodes$Roles" = some m.cls := findClass_of_methodNamed B.named
  have hlocks := B.notSynchronized
  subst hsz
  have hD := hD0.self (sz := s.heap.size)
  have hS : va_S (va_A (wo cI cL cZ ad σ) s.heap.size) s.heap s.heap [] := va_S.rf
  have hA : ∀ q : Nat, s.heap.size ≤ q → va_A (wo cI cL cZ ad σ) s.heap.size q := fun q h => Or.inr h
  generalize va_A (wo cI cL cZ ad σ) s.heap.size = A at hD hS hA hZ ⊢
  have hl := lv_entry ([.ref (ad 2), .int a1, .int a2]) (n := 3) (Nat.le_of_ble_eq_true rfl)
  rw [lg_entry_eq]
  generalize (lg_sl ([.ref (ad 2), .int a1, .int a2]) ++ List.replicate (3 - (lg_sl ([.ref (ad 2), .int a1, .int a2])).length) Slot.unset).toArray = ls at hl ⊢
  have hl : lv_has ls 3 [(0, .ref (ad 2)), (1, .int a1), (2, .int a2)] := hl
  have key : ∀ n : Nat, (∀ {x1 x2 : Int32} {σ : tq_S} {H : Heap} {locs : List Loc} {ls : Array Slot}, va_P (dC, dI) tq_cl (wo cI cL cZ ad σ) H → va_D A (wo cI cL cZ ad σ) → va_S A s.heap H locs → lv_has ls 3 [(0, .ref (ad 2)), (1, .int x1), (2, .int x2)] → tq_go st_Ro_say n (0, [x1, x2], [], σ) = some (tq_rt, [r], [], σ') → W p l e (headSpec w_Ro_say ({ frames := 2, cells := 0, slots := 0, locals := 44 } : Room)).room s m ([.ref (ad 2), .int a1, .int a2] : List Value).toArray below meth c H locs 0 0 (MQ below (va_Qi (fun (r' : Int32) (u : tq_S) => r' = r ∧ u = σ') (tq_E dC dI cI cL cZ (wo cI cL cZ ad) A) A) ([.ref (ad 2), .int a1, .int a2] : List Value).toArray s 0 0 A) (F0 m 0 ls [])) := by
    intro n
    induction n with
    | zero => exact fun _ _ _ _ h => by cases h
    | succ n ih =>
      intro x1 x2 σ H locs ls hP hD hS hl h9
      obtain ⟨q9, hg, hn⟩ := tq_go_s h9 (show ¬ (0 : Nat) = tq_rt by decide)
      replace hg : bk_Ro_say_0 [x1, x2] [] σ = some q9 := hg
      unfold bk_Ro_say_0 at hg
      refine lv_iload_n hx hb d_Ro_say_0 rfl (lv_at hl 1 rfl) ?_
      refine lv_iconst (v := 4) hx hb d_Ro_say_1 (by decide) ?_
      obtain ⟨r2, σ3, f1, hg⟩ := tq_ob_s hg
      refine tq_aI (va_runSN (As := [.int x1, .int 4]) (rest := []) ⟨hx, hb, hml, hown, hts⟩ (c_Tn_isBelow l dC dI cI cL cZ ad tt H.size σ x1 4  r2 σ3 f1) ⟨va_cnB 2 hts (tq_gC tw_239) rfl rfl rfl (hN _ (List.mem_of_getElem? (i := 2) rfl)) (hts _ tw_1) (by decide +kernel) ⟨Nat.le_of_ble_eq_true rfl, Nat.le_of_ble_eq_true rfl⟩, hts _ tw_238, trivial⟩ ⟨tq_bl, (tq_pr hP hK hD hS hA hZ hN)⟩ rfl rfl hl.1 rfl (lv_room (Nat.le_of_ble_eq_true rfl)) d_Ro_say_2 ⟨Nat.zero_le _, Nat.zero_le _⟩) hD hS hA (fun H locs hP hD hS => ?_)
      refine lv_if_eq (tgt := 22) hx hb d_Ro_say_5 (by decide) (fun c4 => ?_) (fun c4 => ?_)
      · replace hg := tq_if_t c4 hg
        refine lv_iconst (v := 0) hx hb d_Ro_say_22 (by decide) ?_
        exact W.zret (v := 0) hx hb hr rfl (fun t ht hW => ⟨⟨0, σ3, rfl, tq_grI hg hn, by rw [ht]; exact hP, va_K.moved hW.alike hK, hD⟩, hS.F ht⟩) hS.2.2 d_Ro_say_23
      · replace hg := tq_if_f c4 hg
        refine lv_aload_n hx hb d_Ro_say_8 rfl (lv_at hl 0 rfl) ?_
        refine va_get (D := (dC, dI)) (ci := 2) (v := .ref (ad 13)) (C := "TableauNodes$Roles") (T := F_Ro) (N := 2) hx hb hts in_Ro hown hK hP 2 rfl rfl 0 (by decide) (hts _ tw_104) (fun _ h9 => h9) rfl d_Ro_say_9 ?_
        refine lv_iload_n hx hb d_Ro_say_12 rfl (lv_at hl 1 rfl) ?_
        obtain ⟨g5, hg⟩ := tq_gd_s hg
        refine va_iald hx hb hK hP 13 0 rfl rfl g5 d_Ro_say_13 ?_
        refine lv_i2l hx hb d_Ro_say_14 rfl ?_
        refine lv_iload_n hx hb d_Ro_say_15 rfl (lv_at hl 2 rfl) ?_
        obtain ⟨r7, σ8, f6, hg⟩ := tq_ob_s hg
        refine tq_aI (va_runSN (As := [.long ((ia σ3 5 x1).toInt64), .int x2]) (rest := []) ⟨hx, hb, hml, hown, hts⟩ (c_Tn_hasBit l dC dI cI cL cZ ad tt H.size σ3 x2 ((ia σ3 5 x1).toInt64) r7 σ8 f6) ⟨va_cnB 2 hts (tq_gC tw_62) rfl rfl rfl (hN _ (List.mem_of_getElem? (i := 1) rfl)) (hts _ tw_1) (by decide +kernel) ⟨Nat.le_of_ble_eq_true rfl, Nat.le_of_ble_eq_true rfl⟩, hts _ tw_61, trivial⟩ ⟨tq_bl, (tq_pr hP hK hD hS hA hZ hN)⟩ rfl rfl hl.1 rfl (lv_room (Nat.le_of_ble_eq_true rfl)) d_Ro_say_16 ⟨Nat.zero_le _, Nat.zero_le _⟩) hD hS hA (fun H locs hP hD hS => ?_)
        refine lv_if_eq (tgt := 24) hx hb d_Ro_say_19 (by decide) (fun c9 => ?_) (fun c9 => ?_)
        · replace hg := tq_if_t c9 hg
          refine lv_aload_n hx hb d_Ro_say_24 rfl (lv_at hl 0 rfl) ?_
          refine va_get (D := (dC, dI)) (ci := 2) (v := .ref (ad 13)) (C := "TableauNodes$Roles") (T := F_Ro) (N := 2) hx hb hts in_Ro hown hK hP 2 rfl rfl 0 (by decide) (hts _ tw_104) (fun _ h9 => h9) rfl d_Ro_say_25 ?_
          refine lv_iload_n hx hb d_Ro_say_28 rfl (lv_at hl 1 rfl) ?_
          refine lv_dup2_11 hx hb d_Ro_say_29 rfl rfl ?_
          obtain ⟨g10, hg⟩ := tq_gd_s hg
          refine va_iald hx hb hK hP 13 0 rfl rfl g10 d_Ro_say_30 ?_
          refine lv_iconst (v := 1) hx hb d_Ro_say_31 (by decide) ?_
          refine lv_iload_n hx hb d_Ro_say_32 rfl (lv_at hl 2 rfl) ?_
          refine lv_ishl hx hb d_Ro_say_33 ?_
          refine lv_ior hx hb d_Ro_say_34 ?_
          obtain ⟨g11, hg⟩ := tq_gd_s hg
          refine va_iast hx hb hK hP hD hS 13 0 rfl rfl g11 d_Ro_say_35 (fun H locs hP hD hS => ?_)
          obtain ⟨σ12, eσ12, hg⟩ := tq_lj_s hg
          replace hP : va_P (dC, dI) tq_cl (wo cI cL cZ ad σ12) H := by rw [eσ12, ← ws_i5]; exact hP
          replace hD : va_D A (wo cI cL cZ ad σ12) := by rw [eσ12, ← ws_i5]; exact hD
          refine lv_aload_n hx hb d_Ro_say_36 rfl (lv_at hl 0 rfl) ?_
          obtain ⟨⟨⟩, σ15, f13, hg⟩ := tq_ob_s hg
          refine tq_aV (va_runV (As := []) (rest := []) ⟨hx, hb, hml, hown, hts⟩ (c_Ro_close l dC dI cI cL cZ ad tt H.size σ12    σ15 f13) (cwV 0 hts (tq_gV tw_99 tw_101 ts_5 tw_3 tw_102) rfl rfl rfl (by decide +kernel) ⟨Nat.le_of_ble_eq_true rfl, Nat.le_of_ble_eq_true rfl⟩) ⟨tq_bl, va_recv hK hP (ci := 2) (q0 := 2) rfl rfl, (tq_pr hP hK hD hS hA hZ hN)⟩ rfl rfl hl.1 rfl (lv_room (Nat.le_of_ble_eq_true rfl)) d_Ro_say_37 ⟨Nat.zero_le _, Nat.zero_le _⟩) hD hS hA (fun H locs hP hD hS => ?_)
          refine lv_iconst (v := 1) hx hb d_Ro_say_40 (by decide) ?_
          exact W.zret (v := 1) hx hb hr rfl (fun t ht hW => ⟨⟨1, σ15, rfl, tq_grI hg hn, by rw [ht]; exact hP, va_K.moved hW.alike hK, hD⟩, hS.F ht⟩) hS.2.2 d_Ro_say_41
        · replace hg := tq_if_f c9 hg
          refine lv_iconst (v := 0) hx hb d_Ro_say_22 (by decide) ?_
          exact W.zret (v := 0) hx hb hr rfl (fun t ht hW => ⟨⟨0, σ8, rfl, tq_grI hg hn, by rw [ht]; exact hP, va_K.moved hW.alike hK, hD⟩, hS.F ht⟩) hS.2.2 d_Ro_say_23
  exact (key n0) hP hD hS hl h0
noncomputable def bk_Co_isSome_0 : List Int32 → List Int64 → tq_S → Option tq_C
  | [x1], [], σ => tq_ob (tq_fI st_Tn_isBelow (0, [x1, (σ.2.2 1)], [], σ)) (fun r2 σ3 => if r2 = 0 then some (tq_rt, [0], [], σ3) else tq_gd x1 10 (tq_gd (ia σ3 3 x1) 80 (if ¬ (ia σ3 0 (ia σ3 3 x1)) = 6 then some (tq_rt, [0], [], σ3) else some (tq_rt, [1], [], σ3))))
  | _, _, _ => none
noncomputable def st_Co_isSome (c : tq_C) : Option tq_C := if c.1 = 0 then bk_Co_isSome_0 c.2.1 c.2.2.1 c.2.2.2 else none
set_option maxHeartbeats 40000000 in
set_option maxRecDepth 100000 in
theorem c_Co_isSome (l : Launch) (dC : Nat → ClassId) (dI : Nat → Nat → Nat) (cI cL cZ : ClassId) (ad : Nat → Nat) (tt : Nat) (sz : Nat) (σ : tq_S) (a1 : Int32) (r : Int32) (σ' : tq_S) (hf : tq_fI st_Co_isSome (0, [a1], [], σ) = some (r, σ')) : Met l y_Co_isSome w_Co_isSome ({ frames := 1, cells := 0, slots := 0, locals := 21 } : Room) (va_Pc [.ref (ad 1), .int a1] (tq_B dC dI cI cL cZ tt (wo cI cL cZ ad σ) sz)) (va_Qi (fun (r' : Int32) (u : tq_S) => r' = r ∧ u = σ') (tq_E dC dI cI cL cZ (wo cI cL cZ ad) (va_A (wo cI cL cZ ad σ) sz)) (va_A (wo cI cL cZ ad σ) sz)) 0 0 (va_A (wo cI cL cZ ad σ) sz) := by
  obtain ⟨n0, h0⟩ := tq_fI_to hf
  refine Met.ofW (cc := prog_2_method_16_code) (maxL := 2) (ret := (some .boolean)) (by decide) rfl ?_
  intro p e s m args below meth c s₁ B hml hv
  obtain ⟨rfl, hsz, hP, hK, hD0, hZ, hN⟩ := hv
  have hx := B.exec
  have hb := B.bytes
  have hr := B.returns
  have hts : ∀ w ∈ tq_T, w.before _ s = true := fun w h => atoms_spec (ws := w_Co_isSome) B.pre w (List.mem_cons_of_mem _ h)
  have hown : s.vm.findClass "TableauNodes$Concepts" = some m.cls := findClass_of_methodNamed B.named
  have hlocks := B.notSynchronized
  subst hsz
  have hD := hD0.self (sz := s.heap.size)
  have hS : va_S (va_A (wo cI cL cZ ad σ) s.heap.size) s.heap s.heap [] := va_S.rf
  have hA : ∀ q : Nat, s.heap.size ≤ q → va_A (wo cI cL cZ ad σ) s.heap.size q := fun q h => Or.inr h
  generalize va_A (wo cI cL cZ ad σ) s.heap.size = A at hD hS hA hZ ⊢
  have hl := lv_entry ([.ref (ad 1), .int a1]) (n := 2) (Nat.le_of_ble_eq_true rfl)
  rw [lg_entry_eq]
  generalize (lg_sl ([.ref (ad 1), .int a1]) ++ List.replicate (2 - (lg_sl ([.ref (ad 1), .int a1])).length) Slot.unset).toArray = ls at hl ⊢
  have hl : lv_has ls 2 [(0, .ref (ad 1)), (1, .int a1)] := hl
  have key : ∀ n : Nat, (∀ {x1 : Int32} {σ : tq_S} {H : Heap} {locs : List Loc} {ls : Array Slot}, va_P (dC, dI) tq_cl (wo cI cL cZ ad σ) H → va_D A (wo cI cL cZ ad σ) → va_S A s.heap H locs → lv_has ls 2 [(0, .ref (ad 1)), (1, .int x1)] → tq_go st_Co_isSome n (0, [x1], [], σ) = some (tq_rt, [r], [], σ') → W p l e (headSpec w_Co_isSome ({ frames := 1, cells := 0, slots := 0, locals := 21 } : Room)).room s m ([.ref (ad 1), .int a1] : List Value).toArray below meth c H locs 0 0 (MQ below (va_Qi (fun (r' : Int32) (u : tq_S) => r' = r ∧ u = σ') (tq_E dC dI cI cL cZ (wo cI cL cZ ad) A) A) ([.ref (ad 1), .int a1] : List Value).toArray s 0 0 A) (F0 m 0 ls [])) := by
    intro n
    induction n with
    | zero => exact fun _ _ _ _ h => by cases h
    | succ n ih =>
      intro x1 σ H locs ls hP hD hS hl h9
      obtain ⟨q9, hg, hn⟩ := tq_go_s h9 (show ¬ (0 : Nat) = tq_rt by decide)
      replace hg : bk_Co_isSome_0 [x1] [] σ = some q9 := hg
      unfold bk_Co_isSome_0 at hg
      refine lv_iload_n hx hb d_Co_isSome_0 rfl (lv_at hl 1 rfl) ?_
      refine lv_aload_n hx hb d_Co_isSome_1 rfl (lv_at hl 0 rfl) ?_
      refine va_get (D := (dC, dI)) (ci := 1) (v := .int (σ.2.2 1)) (C := "TableauNodes$Concepts") (T := F_Co) (N := 9) hx hb hts in_Co hown hK hP 1 rfl rfl 8 (by decide) (hts _ tw_71) (fun _ h9 => h9) rfl d_Co_isSome_2 ?_
      obtain ⟨r2, σ3, f1, hg⟩ := tq_ob_s hg
      refine tq_aI (va_runSN (As := [.int x1, .int (σ.2.2 1)]) (rest := []) ⟨hx, hb, hml, hown, hts⟩ (c_Tn_isBelow l dC dI cI cL cZ ad tt H.size σ x1 (σ.2.2 1)  r2 σ3 f1) ⟨va_cnB 2 hts (tq_gC tw_239) rfl rfl rfl (hN _ (List.mem_of_getElem? (i := 3) rfl)) (hts _ tw_1) (by decide +kernel) ⟨Nat.le_of_ble_eq_true rfl, Nat.le_of_ble_eq_true rfl⟩, hts _ tw_238, trivial⟩ ⟨tq_bl, (tq_pr hP hK hD hS hA hZ hN)⟩ rfl rfl hl.1 rfl (lv_room (Nat.le_of_ble_eq_true rfl)) d_Co_isSome_5 ⟨Nat.zero_le _, Nat.zero_le _⟩) hD hS hA (fun H locs hP hD hS => ?_)
      refine lv_if_eq (tgt := 31) hx hb d_Co_isSome_8 (by decide) (fun c4 => ?_) (fun c4 => ?_)
      · replace hg := tq_if_t c4 hg
        refine lv_iconst (v := 0) hx hb d_Co_isSome_31 (by decide) ?_
        exact W.zret (v := 0) hx hb hr rfl (fun t ht hW => ⟨⟨0, σ3, rfl, tq_grI hg hn, by rw [ht]; exact hP, va_K.moved hW.alike hK, hD⟩, hS.F ht⟩) hS.2.2 d_Co_isSome_32
      · replace hg := tq_if_f c4 hg
        refine lv_aload_n hx hb d_Co_isSome_11 rfl (lv_at hl 0 rfl) ?_
        refine va_get (D := (dC, dI)) (ci := 1) (v := .ref (ad 6)) (C := "TableauNodes$Concepts") (T := F_Co) (N := 9) hx hb hts in_Co hown hK hP 1 rfl rfl 0 (by decide) (hts _ tw_63) (fun _ h9 => h9) rfl d_Co_isSome_12 ?_
        refine lv_aload_n hx hb d_Co_isSome_15 rfl (lv_at hl 0 rfl) ?_
        refine va_get (D := (dC, dI)) (ci := 1) (v := .ref (ad 10)) (C := "TableauNodes$Concepts") (T := F_Co) (N := 9) hx hb hts in_Co hown hK hP 1 rfl rfl 4 (by decide) (hts _ tw_67) (fun _ h9 => h9) rfl d_Co_isSome_16 ?_
        refine lv_iload_n hx hb d_Co_isSome_19 rfl (lv_at hl 1 rfl) ?_
        obtain ⟨g5, hg⟩ := tq_gd_s hg
        refine va_iald hx hb hK hP 10 0 rfl rfl g5 d_Co_isSome_20 ?_
        obtain ⟨g6, hg⟩ := tq_gd_s hg
        refine va_iald hx hb hK hP 6 0 rfl rfl g6 d_Co_isSome_21 ?_
        refine lv_bipush (v := 6) hx hb d_Co_isSome_22 (by decide) ?_
        refine lv_icmp_ne (tgt := 31) hx hb d_Co_isSome_24 (by decide) (fun c7 => ?_) (fun c7 => ?_)
        · replace hg := tq_if_t c7 hg
          refine lv_iconst (v := 0) hx hb d_Co_isSome_31 (by decide) ?_
          exact W.zret (v := 0) hx hb hr rfl (fun t ht hW => ⟨⟨0, σ3, rfl, tq_grI hg hn, by rw [ht]; exact hP, va_K.moved hW.alike hK, hD⟩, hS.F ht⟩) hS.2.2 d_Co_isSome_32
        · replace hg := tq_if_n c7 hg
          refine lv_iconst (v := 1) hx hb d_Co_isSome_27 (by decide) ?_
          refine lv_goto (tgt := 32) hx hb d_Co_isSome_28 (by decide) ?_
          exact W.zret (v := 1) hx hb hr rfl (fun t ht hW => ⟨⟨1, σ3, rfl, tq_grI hg hn, by rw [ht]; exact hP, va_K.moved hW.alike hK, hD⟩, hS.F ht⟩) hS.2.2 d_Co_isSome_32
  exact (key n0) hP hD hS hl h0
noncomputable def bk_Co_roleOfSome_0 : List Int32 → List Int64 → tq_S → Option tq_C
  | [x1], [], σ => tq_ob (tq_fI st_Co_isSome (0, [x1], [], σ)) (fun r2 σ3 => if r2 = 0 then some (tq_rt, [0], [], σ3) else tq_gd x1 10 (tq_gd (ia σ3 3 x1) 80 (some (tq_rt, [(ia σ3 1 (ia σ3 3 x1))], [], σ3))))
  | _, _, _ => none
noncomputable def st_Co_roleOfSome (c : tq_C) : Option tq_C := if c.1 = 0 then bk_Co_roleOfSome_0 c.2.1 c.2.2.1 c.2.2.2 else none
set_option maxHeartbeats 40000000 in
set_option maxRecDepth 100000 in
theorem c_Co_roleOfSome (l : Launch) (dC : Nat → ClassId) (dI : Nat → Nat → Nat) (cI cL cZ : ClassId) (ad : Nat → Nat) (tt : Nat) (sz : Nat) (σ : tq_S) (a1 : Int32) (r : Int32) (σ' : tq_S) (hf : tq_fI st_Co_roleOfSome (0, [a1], [], σ) = some (r, σ')) : Met l y_Co_roleOfSome w_Co_roleOfSome ({ frames := 2, cells := 0, slots := 0, locals := 42 } : Room) (va_Pc [.ref (ad 1), .int a1] (tq_B dC dI cI cL cZ tt (wo cI cL cZ ad σ) sz)) (va_Qi (fun (r' : Int32) (u : tq_S) => r' = r ∧ u = σ') (tq_E dC dI cI cL cZ (wo cI cL cZ ad) (va_A (wo cI cL cZ ad σ) sz)) (va_A (wo cI cL cZ ad σ) sz)) 0 0 (va_A (wo cI cL cZ ad σ) sz) := by
  obtain ⟨n0, h0⟩ := tq_fI_to hf
  refine Met.ofW (cc := prog_2_method_17_code) (maxL := 2) (ret := (some .int)) (by decide) rfl ?_
  intro p e s m args below meth c s₁ B hml hv
  obtain ⟨rfl, hsz, hP, hK, hD0, hZ, hN⟩ := hv
  have hx := B.exec
  have hb := B.bytes
  have hr := B.returns
  have hts : ∀ w ∈ tq_T, w.before _ s = true := fun w h => atoms_spec (ws := w_Co_roleOfSome) B.pre w (List.mem_cons_of_mem _ h)
  have hown : s.vm.findClass "TableauNodes$Concepts" = some m.cls := findClass_of_methodNamed B.named
  have hlocks := B.notSynchronized
  subst hsz
  have hD := hD0.self (sz := s.heap.size)
  have hS : va_S (va_A (wo cI cL cZ ad σ) s.heap.size) s.heap s.heap [] := va_S.rf
  have hA : ∀ q : Nat, s.heap.size ≤ q → va_A (wo cI cL cZ ad σ) s.heap.size q := fun q h => Or.inr h
  generalize va_A (wo cI cL cZ ad σ) s.heap.size = A at hD hS hA hZ ⊢
  have hl := lv_entry ([.ref (ad 1), .int a1]) (n := 2) (Nat.le_of_ble_eq_true rfl)
  rw [lg_entry_eq]
  generalize (lg_sl ([.ref (ad 1), .int a1]) ++ List.replicate (2 - (lg_sl ([.ref (ad 1), .int a1])).length) Slot.unset).toArray = ls at hl ⊢
  have hl : lv_has ls 2 [(0, .ref (ad 1)), (1, .int a1)] := hl
  have key : ∀ n : Nat, (∀ {x1 : Int32} {σ : tq_S} {H : Heap} {locs : List Loc} {ls : Array Slot}, va_P (dC, dI) tq_cl (wo cI cL cZ ad σ) H → va_D A (wo cI cL cZ ad σ) → va_S A s.heap H locs → lv_has ls 2 [(0, .ref (ad 1)), (1, .int x1)] → tq_go st_Co_roleOfSome n (0, [x1], [], σ) = some (tq_rt, [r], [], σ') → W p l e (headSpec w_Co_roleOfSome ({ frames := 2, cells := 0, slots := 0, locals := 42 } : Room)).room s m ([.ref (ad 1), .int a1] : List Value).toArray below meth c H locs 0 0 (MQ below (va_Qi (fun (r' : Int32) (u : tq_S) => r' = r ∧ u = σ') (tq_E dC dI cI cL cZ (wo cI cL cZ ad) A) A) ([.ref (ad 1), .int a1] : List Value).toArray s 0 0 A) (F0 m 0 ls [])) := by
    intro n
    induction n with
    | zero => exact fun _ _ _ _ h => by cases h
    | succ n ih =>
      intro x1 σ H locs ls hP hD hS hl h9
      obtain ⟨q9, hg, hn⟩ := tq_go_s h9 (show ¬ (0 : Nat) = tq_rt by decide)
      replace hg : bk_Co_roleOfSome_0 [x1] [] σ = some q9 := hg
      unfold bk_Co_roleOfSome_0 at hg
      refine lv_aload_n hx hb d_Co_roleOfSome_0 rfl (lv_at hl 0 rfl) ?_
      refine lv_iload_n hx hb d_Co_roleOfSome_1 rfl (lv_at hl 1 rfl) ?_
      obtain ⟨r2, σ3, f1, hg⟩ := tq_ob_s hg
      refine tq_aI (va_runV (As := [.int x1]) (rest := []) ⟨hx, hb, hml, hown, hts⟩ (c_Co_isSome l dC dI cI cL cZ ad tt H.size σ x1  r2 σ3 f1) (cwV 1 hts (tq_gV tw_329 tw_321 tw_322 tw_2 tw_323) rfl rfl rfl (by decide +kernel) ⟨Nat.le_of_ble_eq_true rfl, Nat.le_of_ble_eq_true rfl⟩) ⟨tq_bl, va_recv hK hP (ci := 1) (q0 := 1) rfl rfl, (tq_pr hP hK hD hS hA hZ hN)⟩ rfl rfl hl.1 rfl (lv_room (Nat.le_of_ble_eq_true rfl)) d_Co_roleOfSome_2 ⟨Nat.zero_le _, Nat.zero_le _⟩) hD hS hA (fun H locs hP hD hS => ?_)
      refine lv_if_eq (tgt := 22) hx hb d_Co_roleOfSome_5 (by decide) (fun c4 => ?_) (fun c4 => ?_)
      · replace hg := tq_if_t c4 hg
        refine lv_iconst (v := 0) hx hb d_Co_roleOfSome_22 (by decide) ?_
        exact W.iret (v := 0) hx hb hr (fun t ht hW => ⟨⟨0, σ3, rfl, tq_grI hg hn, by rw [ht]; exact hP, va_K.moved hW.alike hK, hD⟩, hS.F ht⟩) hS.2.2 d_Co_roleOfSome_23
      · replace hg := tq_if_f c4 hg
        refine lv_aload_n hx hb d_Co_roleOfSome_8 rfl (lv_at hl 0 rfl) ?_
        refine va_get (D := (dC, dI)) (ci := 1) (v := .ref (ad 7)) (C := "TableauNodes$Concepts") (T := F_Co) (N := 9) hx hb hts in_Co hown hK hP 1 rfl rfl 1 (by decide) (hts _ tw_64) (fun _ h9 => h9) rfl d_Co_roleOfSome_9 ?_
        refine lv_aload_n hx hb d_Co_roleOfSome_12 rfl (lv_at hl 0 rfl) ?_
        refine va_get (D := (dC, dI)) (ci := 1) (v := .ref (ad 10)) (C := "TableauNodes$Concepts") (T := F_Co) (N := 9) hx hb hts in_Co hown hK hP 1 rfl rfl 4 (by decide) (hts _ tw_67) (fun _ h9 => h9) rfl d_Co_roleOfSome_13 ?_
        refine lv_iload_n hx hb d_Co_roleOfSome_16 rfl (lv_at hl 1 rfl) ?_
        obtain ⟨g5, hg⟩ := tq_gd_s hg
        refine va_iald hx hb hK hP 10 0 rfl rfl g5 d_Co_roleOfSome_17 ?_
        obtain ⟨g6, hg⟩ := tq_gd_s hg
        refine va_iald hx hb hK hP 7 0 rfl rfl g6 d_Co_roleOfSome_18 ?_
        refine lv_goto (tgt := 23) hx hb d_Co_roleOfSome_19 (by decide) ?_
        exact W.iret (v := (ia σ3 1 (ia σ3 3 x1))) hx hb hr (fun t ht hW => ⟨⟨(ia σ3 1 (ia σ3 3 x1)), σ3, rfl, tq_grI hg hn, by rw [ht]; exact hP, va_K.moved hW.alike hK, hD⟩, hS.F ht⟩) hS.2.2 d_Co_roleOfSome_23
  exact (key n0) hP hD hS hl h0
noncomputable def bk_Ro_isUnder_0 : List Int32 → List Int64 → tq_S → Option tq_C
  | [x1, x2], [], σ => tq_ob (tq_fI st_Tn_isBelow (0, [x1, 4], [], σ)) (fun r2 σ3 => if r2 = 0 then some (tq_rt, [0], [], σ3) else tq_gd x1 4 (tq_ob (tq_fI st_Tn_hasBit (0, [x2], [(ia σ3 6 x1).toInt64], σ3)) (fun r7 σ8 => if r7 = 0 then some (tq_rt, [0], [], σ8) else some (tq_rt, [1], [], σ8))))
  | _, _, _ => none
noncomputable def st_Ro_isUnder (c : tq_C) : Option tq_C := if c.1 = 0 then bk_Ro_isUnder_0 c.2.1 c.2.2.1 c.2.2.2 else none
set_option maxHeartbeats 40000000 in
set_option maxRecDepth 100000 in
theorem c_Ro_isUnder (l : Launch) (dC : Nat → ClassId) (dI : Nat → Nat → Nat) (cI cL cZ : ClassId) (ad : Nat → Nat) (tt : Nat) (sz : Nat) (σ : tq_S) (a1 : Int32) (a2 : Int32) (r : Int32) (σ' : tq_S) (hf : tq_fI st_Ro_isUnder (0, [a1, a2], [], σ) = some (r, σ')) : Met l y_Ro_isUnder w_Ro_isUnder ({ frames := 1, cells := 0, slots := 0, locals := 22 } : Room) (va_Pc [.ref (ad 2), .int a1, .int a2] (tq_B dC dI cI cL cZ tt (wo cI cL cZ ad σ) sz)) (va_Qi (fun (r' : Int32) (u : tq_S) => r' = r ∧ u = σ') (tq_E dC dI cI cL cZ (wo cI cL cZ ad) (va_A (wo cI cL cZ ad σ) sz)) (va_A (wo cI cL cZ ad σ) sz)) 0 0 (va_A (wo cI cL cZ ad σ) sz) := by
  obtain ⟨n0, h0⟩ := tq_fI_to hf
  refine Met.ofW (cc := prog_4_method_3_code) (maxL := 3) (ret := (some .boolean)) (by decide) rfl ?_
  intro p e s m args below meth c s₁ B hml hv
  obtain ⟨rfl, hsz, hP, hK, hD0, hZ, hN⟩ := hv
  have hx := B.exec
  have hb := B.bytes
  have hr := B.returns
  have hts : ∀ w ∈ tq_T, w.before _ s = true := fun w h => atoms_spec (ws := w_Ro_isUnder) B.pre w (List.mem_cons_of_mem _ h)
  have hown : s.vm.findClass "TableauNodes$Roles" = some m.cls := findClass_of_methodNamed B.named
  have hlocks := B.notSynchronized
  subst hsz
  have hD := hD0.self (sz := s.heap.size)
  have hS : va_S (va_A (wo cI cL cZ ad σ) s.heap.size) s.heap s.heap [] := va_S.rf
  have hA : ∀ q : Nat, s.heap.size ≤ q → va_A (wo cI cL cZ ad σ) s.heap.size q := fun q h => Or.inr h
  generalize va_A (wo cI cL cZ ad σ) s.heap.size = A at hD hS hA hZ ⊢
  have hl := lv_entry ([.ref (ad 2), .int a1, .int a2]) (n := 3) (Nat.le_of_ble_eq_true rfl)
  rw [lg_entry_eq]
  generalize (lg_sl ([.ref (ad 2), .int a1, .int a2]) ++ List.replicate (3 - (lg_sl ([.ref (ad 2), .int a1, .int a2])).length) Slot.unset).toArray = ls at hl ⊢
  have hl : lv_has ls 3 [(0, .ref (ad 2)), (1, .int a1), (2, .int a2)] := hl
  have key : ∀ n : Nat, (∀ {x1 x2 : Int32} {σ : tq_S} {H : Heap} {locs : List Loc} {ls : Array Slot}, va_P (dC, dI) tq_cl (wo cI cL cZ ad σ) H → va_D A (wo cI cL cZ ad σ) → va_S A s.heap H locs → lv_has ls 3 [(0, .ref (ad 2)), (1, .int x1), (2, .int x2)] → tq_go st_Ro_isUnder n (0, [x1, x2], [], σ) = some (tq_rt, [r], [], σ') → W p l e (headSpec w_Ro_isUnder ({ frames := 1, cells := 0, slots := 0, locals := 22 } : Room)).room s m ([.ref (ad 2), .int a1, .int a2] : List Value).toArray below meth c H locs 0 0 (MQ below (va_Qi (fun (r' : Int32) (u : tq_S) => r' = r ∧ u = σ') (tq_E dC dI cI cL cZ (wo cI cL cZ ad) A) A) ([.ref (ad 2), .int a1, .int a2] : List Value).toArray s 0 0 A) (F0 m 0 ls [])) := by
    intro n
    induction n with
    | zero => exact fun _ _ _ _ h => by cases h
    | succ n ih =>
      intro x1 x2 σ H locs ls hP hD hS hl h9
      obtain ⟨q9, hg, hn⟩ := tq_go_s h9 (show ¬ (0 : Nat) = tq_rt by decide)
      replace hg : bk_Ro_isUnder_0 [x1, x2] [] σ = some q9 := hg
      unfold bk_Ro_isUnder_0 at hg
      refine lv_iload_n hx hb d_Ro_isUnder_0 rfl (lv_at hl 1 rfl) ?_
      refine lv_iconst (v := 4) hx hb d_Ro_isUnder_1 (by decide) ?_
      obtain ⟨r2, σ3, f1, hg⟩ := tq_ob_s hg
      refine tq_aI (va_runSN (As := [.int x1, .int 4]) (rest := []) ⟨hx, hb, hml, hown, hts⟩ (c_Tn_isBelow l dC dI cI cL cZ ad tt H.size σ x1 4  r2 σ3 f1) ⟨va_cnB 2 hts (tq_gC tw_239) rfl rfl rfl (hN _ (List.mem_of_getElem? (i := 2) rfl)) (hts _ tw_1) (by decide +kernel) ⟨Nat.le_of_ble_eq_true rfl, Nat.le_of_ble_eq_true rfl⟩, hts _ tw_238, trivial⟩ ⟨tq_bl, (tq_pr hP hK hD hS hA hZ hN)⟩ rfl rfl hl.1 rfl (lv_room (Nat.le_of_ble_eq_true rfl)) d_Ro_isUnder_2 ⟨Nat.zero_le _, Nat.zero_le _⟩) hD hS hA (fun H locs hP hD hS => ?_)
      refine lv_if_eq (tgt := 26) hx hb d_Ro_isUnder_5 (by decide) (fun c4 => ?_) (fun c4 => ?_)
      · replace hg := tq_if_t c4 hg
        refine lv_iconst (v := 0) hx hb d_Ro_isUnder_26 (by decide) ?_
        exact W.zret (v := 0) hx hb hr rfl (fun t ht hW => ⟨⟨0, σ3, rfl, tq_grI hg hn, by rw [ht]; exact hP, va_K.moved hW.alike hK, hD⟩, hS.F ht⟩) hS.2.2 d_Ro_isUnder_27
      · replace hg := tq_if_f c4 hg
        refine lv_aload_n hx hb d_Ro_isUnder_8 rfl (lv_at hl 0 rfl) ?_
        refine va_get (D := (dC, dI)) (ci := 2) (v := .ref (ad 14)) (C := "TableauNodes$Roles") (T := F_Ro) (N := 2) hx hb hts in_Ro hown hK hP 2 rfl rfl 1 (by decide) (hts _ tw_105) (fun _ h9 => h9) rfl d_Ro_isUnder_9 ?_
        refine lv_iload_n hx hb d_Ro_isUnder_12 rfl (lv_at hl 1 rfl) ?_
        obtain ⟨g5, hg⟩ := tq_gd_s hg
        refine va_iald hx hb hK hP 14 0 rfl rfl g5 d_Ro_isUnder_13 ?_
        refine lv_i2l hx hb d_Ro_isUnder_14 rfl ?_
        refine lv_iload_n hx hb d_Ro_isUnder_15 rfl (lv_at hl 2 rfl) ?_
        obtain ⟨r7, σ8, f6, hg⟩ := tq_ob_s hg
        refine tq_aI (va_runSN (As := [.long ((ia σ3 6 x1).toInt64), .int x2]) (rest := []) ⟨hx, hb, hml, hown, hts⟩ (c_Tn_hasBit l dC dI cI cL cZ ad tt H.size σ3 x2 ((ia σ3 6 x1).toInt64) r7 σ8 f6) ⟨va_cnB 2 hts (tq_gC tw_62) rfl rfl rfl (hN _ (List.mem_of_getElem? (i := 1) rfl)) (hts _ tw_1) (by decide +kernel) ⟨Nat.le_of_ble_eq_true rfl, Nat.le_of_ble_eq_true rfl⟩, hts _ tw_61, trivial⟩ ⟨tq_bl, (tq_pr hP hK hD hS hA hZ hN)⟩ rfl rfl hl.1 rfl (lv_room (Nat.le_of_ble_eq_true rfl)) d_Ro_isUnder_16 ⟨Nat.zero_le _, Nat.zero_le _⟩) hD hS hA (fun H locs hP hD hS => ?_)
        refine lv_if_eq (tgt := 26) hx hb d_Ro_isUnder_19 (by decide) (fun c9 => ?_) (fun c9 => ?_)
        · replace hg := tq_if_t c9 hg
          refine lv_iconst (v := 0) hx hb d_Ro_isUnder_26 (by decide) ?_
          exact W.zret (v := 0) hx hb hr rfl (fun t ht hW => ⟨⟨0, σ8, rfl, tq_grI hg hn, by rw [ht]; exact hP, va_K.moved hW.alike hK, hD⟩, hS.F ht⟩) hS.2.2 d_Ro_isUnder_27
        · replace hg := tq_if_f c9 hg
          refine lv_iconst (v := 1) hx hb d_Ro_isUnder_22 (by decide) ?_
          refine lv_goto (tgt := 27) hx hb d_Ro_isUnder_23 (by decide) ?_
          exact W.zret (v := 1) hx hb hr rfl (fun t ht hW => ⟨⟨1, σ8, rfl, tq_grI hg hn, by rw [ht]; exact hP, va_K.moved hW.alike hK, hD⟩, hS.F ht⟩) hS.2.2 d_Ro_isUnder_27
  exact (key n0) hP hD hS hl h0
noncomputable def bk_Co_typeCount_0 : List Int32 → List Int64 → tq_S → Option tq_C
  | [], [], σ => some (tq_rt, [(1 <<< ((σ.2.2 1) &&& 31))], [], σ)
  | _, _, _ => none
noncomputable def st_Co_typeCount (c : tq_C) : Option tq_C := if c.1 = 0 then bk_Co_typeCount_0 c.2.1 c.2.2.1 c.2.2.2 else none
set_option maxHeartbeats 40000000 in
set_option maxRecDepth 100000 in
theorem c_Co_typeCount (l : Launch) (dC : Nat → ClassId) (dI : Nat → Nat → Nat) (cI cL cZ : ClassId) (ad : Nat → Nat) (tt : Nat) (sz : Nat) (σ : tq_S) (r : Int32) (σ' : tq_S) (hf : tq_fI st_Co_typeCount (0, [], [], σ) = some (r, σ')) : Met l y_Co_typeCount w_Co_typeCount ({ frames := 0, cells := 0, slots := 0, locals := 0 } : Room) (va_Pc [.ref (ad 1)] (tq_B dC dI cI cL cZ tt (wo cI cL cZ ad σ) sz)) (va_Qi (fun (r' : Int32) (u : tq_S) => r' = r ∧ u = σ') (tq_E dC dI cI cL cZ (wo cI cL cZ ad) (va_A (wo cI cL cZ ad σ) sz)) (va_A (wo cI cL cZ ad σ) sz)) 0 0 (va_A (wo cI cL cZ ad σ) sz) := by
  obtain ⟨n0, h0⟩ := tq_fI_to hf
  refine Met.ofW (cc := prog_2_method_4_code) (maxL := 1) (ret := (some .int)) (by decide) rfl ?_
  intro p e s m args below meth c s₁ B hml hv
  obtain ⟨rfl, hsz, hP, hK, hD0, hZ, hN⟩ := hv
  have hx := B.exec
  have hb := B.bytes
  have hr := B.returns
  have hts : ∀ w ∈ tq_T, w.before _ s = true := fun w h => atoms_spec (ws := w_Co_typeCount) B.pre w (List.mem_cons_of_mem _ h)
  have hown : s.vm.findClass "TableauNodes$Concepts" = some m.cls := findClass_of_methodNamed B.named
  have hlocks := B.notSynchronized
  subst hsz
  have hD := hD0.self (sz := s.heap.size)
  have hS : va_S (va_A (wo cI cL cZ ad σ) s.heap.size) s.heap s.heap [] := va_S.rf
  have hA : ∀ q : Nat, s.heap.size ≤ q → va_A (wo cI cL cZ ad σ) s.heap.size q := fun q h => Or.inr h
  generalize va_A (wo cI cL cZ ad σ) s.heap.size = A at hD hS hA hZ ⊢
  have hl := lv_entry ([.ref (ad 1)]) (n := 1) (Nat.le_of_ble_eq_true rfl)
  rw [lg_entry_eq]
  generalize (lg_sl ([.ref (ad 1)]) ++ List.replicate (1 - (lg_sl ([.ref (ad 1)])).length) Slot.unset).toArray = ls at hl ⊢
  have hl : lv_has ls 1 [(0, .ref (ad 1))] := hl
  have key : ∀ n : Nat, (∀ {σ : tq_S} {H : Heap} {locs : List Loc} {ls : Array Slot}, va_P (dC, dI) tq_cl (wo cI cL cZ ad σ) H → va_D A (wo cI cL cZ ad σ) → va_S A s.heap H locs → lv_has ls 1 [(0, .ref (ad 1))] → tq_go st_Co_typeCount n (0, [], [], σ) = some (tq_rt, [r], [], σ') → W p l e (headSpec w_Co_typeCount ({ frames := 0, cells := 0, slots := 0, locals := 0 } : Room)).room s m ([.ref (ad 1)] : List Value).toArray below meth c H locs 0 0 (MQ below (va_Qi (fun (r' : Int32) (u : tq_S) => r' = r ∧ u = σ') (tq_E dC dI cI cL cZ (wo cI cL cZ ad) A) A) ([.ref (ad 1)] : List Value).toArray s 0 0 A) (F0 m 0 ls [])) := by
    intro n
    induction n with
    | zero => exact fun _ _ _ _ h => by cases h
    | succ n ih =>
      intro  σ H locs ls hP hD hS hl h9
      obtain ⟨q9, hg, hn⟩ := tq_go_s h9 (show ¬ (0 : Nat) = tq_rt by decide)
      replace hg : bk_Co_typeCount_0 [] [] σ = some q9 := hg
      unfold bk_Co_typeCount_0 at hg
      refine lv_iconst (v := 1) hx hb d_Co_typeCount_0 (by decide) ?_
      refine lv_aload_n hx hb d_Co_typeCount_1 rfl (lv_at hl 0 rfl) ?_
      refine va_get (D := (dC, dI)) (ci := 1) (v := .int (σ.2.2 1)) (C := "TableauNodes$Concepts") (T := F_Co) (N := 9) hx hb hts in_Co hown hK hP 1 rfl rfl 8 (by decide) (hts _ tw_71) (fun _ h9 => h9) rfl d_Co_typeCount_2 ?_
      refine lv_ishl hx hb d_Co_typeCount_5 ?_
      exact W.iret (v := (1 <<< ((σ.2.2 1) &&& 31))) hx hb hr (fun t ht hW => ⟨⟨(1 <<< ((σ.2.2 1) &&& 31)), σ, rfl, tq_grI hg hn, by rw [ht]; exact hP, va_K.moved hW.alike hK, hD⟩, hS.F ht⟩) hS.2.2 d_Co_typeCount_6
  exact (key n0) hP hD hS hl h0
noncomputable def bk_Co_wordCount_0 : List Int32 → List Int64 → tq_S → Option tq_C
  | [], [], σ => tq_ob (tq_fI st_Co_typeCount (0, [], [], σ)) (fun r2 σ3 => some (tq_rt, [(((r2 + 64) - 1) / 64)], [], σ3))
  | _, _, _ => none
noncomputable def st_Co_wordCount (c : tq_C) : Option tq_C := if c.1 = 0 then bk_Co_wordCount_0 c.2.1 c.2.2.1 c.2.2.2 else none
set_option maxHeartbeats 40000000 in
set_option maxRecDepth 100000 in
theorem c_Co_wordCount (l : Launch) (dC : Nat → ClassId) (dI : Nat → Nat → Nat) (cI cL cZ : ClassId) (ad : Nat → Nat) (tt : Nat) (sz : Nat) (σ : tq_S) (r : Int32) (σ' : tq_S) (hf : tq_fI st_Co_wordCount (0, [], [], σ) = some (r, σ')) : Met l y_Co_wordCount w_Co_wordCount ({ frames := 1, cells := 0, slots := 0, locals := 20 } : Room) (va_Pc [.ref (ad 1)] (tq_B dC dI cI cL cZ tt (wo cI cL cZ ad σ) sz)) (va_Qi (fun (r' : Int32) (u : tq_S) => r' = r ∧ u = σ') (tq_E dC dI cI cL cZ (wo cI cL cZ ad) (va_A (wo cI cL cZ ad σ) sz)) (va_A (wo cI cL cZ ad σ) sz)) 0 0 (va_A (wo cI cL cZ ad σ) sz) := by
  obtain ⟨n0, h0⟩ := tq_fI_to hf
  refine Met.ofW (cc := prog_2_method_5_code) (maxL := 1) (ret := (some .int)) (by decide) rfl ?_
  intro p e s m args below meth c s₁ B hml hv
  obtain ⟨rfl, hsz, hP, hK, hD0, hZ, hN⟩ := hv
  have hx := B.exec
  have hb := B.bytes
  have hr := B.returns
  have hts : ∀ w ∈ tq_T, w.before _ s = true := fun w h => atoms_spec (ws := w_Co_wordCount) B.pre w (List.mem_cons_of_mem _ h)
  have hown : s.vm.findClass "TableauNodes$Concepts" = some m.cls := findClass_of_methodNamed B.named
  have hlocks := B.notSynchronized
  subst hsz
  have hD := hD0.self (sz := s.heap.size)
  have hS : va_S (va_A (wo cI cL cZ ad σ) s.heap.size) s.heap s.heap [] := va_S.rf
  have hA : ∀ q : Nat, s.heap.size ≤ q → va_A (wo cI cL cZ ad σ) s.heap.size q := fun q h => Or.inr h
  generalize va_A (wo cI cL cZ ad σ) s.heap.size = A at hD hS hA hZ ⊢
  have hl := lv_entry ([.ref (ad 1)]) (n := 1) (Nat.le_of_ble_eq_true rfl)
  rw [lg_entry_eq]
  generalize (lg_sl ([.ref (ad 1)]) ++ List.replicate (1 - (lg_sl ([.ref (ad 1)])).length) Slot.unset).toArray = ls at hl ⊢
  have hl : lv_has ls 1 [(0, .ref (ad 1))] := hl
  have key : ∀ n : Nat, (∀ {σ : tq_S} {H : Heap} {locs : List Loc} {ls : Array Slot}, va_P (dC, dI) tq_cl (wo cI cL cZ ad σ) H → va_D A (wo cI cL cZ ad σ) → va_S A s.heap H locs → lv_has ls 1 [(0, .ref (ad 1))] → tq_go st_Co_wordCount n (0, [], [], σ) = some (tq_rt, [r], [], σ') → W p l e (headSpec w_Co_wordCount ({ frames := 1, cells := 0, slots := 0, locals := 20 } : Room)).room s m ([.ref (ad 1)] : List Value).toArray below meth c H locs 0 0 (MQ below (va_Qi (fun (r' : Int32) (u : tq_S) => r' = r ∧ u = σ') (tq_E dC dI cI cL cZ (wo cI cL cZ ad) A) A) ([.ref (ad 1)] : List Value).toArray s 0 0 A) (F0 m 0 ls [])) := by
    intro n
    induction n with
    | zero => exact fun _ _ _ _ h => by cases h
    | succ n ih =>
      intro  σ H locs ls hP hD hS hl h9
      obtain ⟨q9, hg, hn⟩ := tq_go_s h9 (show ¬ (0 : Nat) = tq_rt by decide)
      replace hg : bk_Co_wordCount_0 [] [] σ = some q9 := hg
      unfold bk_Co_wordCount_0 at hg
      refine lv_aload_n hx hb d_Co_wordCount_0 rfl (lv_at hl 0 rfl) ?_
      obtain ⟨r2, σ3, f1, hg⟩ := tq_ob_s hg
      refine tq_aI (va_runV (As := []) (rest := []) ⟨hx, hb, hml, hown, hts⟩ (c_Co_typeCount l dC dI cI cL cZ ad tt H.size σ   r2 σ3 f1) (cwV 0 hts (tq_gV tw_342 tw_343 tw_344 tw_2 tw_345) rfl rfl rfl (by decide +kernel) ⟨Nat.le_of_ble_eq_true rfl, Nat.le_of_ble_eq_true rfl⟩) ⟨tq_bl, va_recv hK hP (ci := 1) (q0 := 1) rfl rfl, (tq_pr hP hK hD hS hA hZ hN)⟩ rfl rfl hl.1 rfl (lv_room (Nat.le_of_ble_eq_true rfl)) d_Co_wordCount_1 ⟨Nat.zero_le _, Nat.zero_le _⟩) hD hS hA (fun H locs hP hD hS => ?_)
      refine lv_bipush (v := 64) hx hb d_Co_wordCount_4 (by decide) ?_
      refine lv_iadd hx hb d_Co_wordCount_6 ?_
      refine lv_iconst (v := 1) hx hb d_Co_wordCount_7 (by decide) ?_
      refine lv_isub hx hb d_Co_wordCount_8 ?_
      refine lv_bipush (v := 64) hx hb d_Co_wordCount_9 (by decide) ?_
      refine lv_idiv hx hb d_Co_wordCount_11 (by decide) ?_
      exact W.iret (v := (((r2 + 64) - 1) / 64)) hx hb hr (fun t ht hW => ⟨⟨(((r2 + 64) - 1) / 64), σ3, rfl, tq_grI hg hn, by rw [ht]; exact hP, va_K.moved hW.alike hK, hD⟩, hS.F ht⟩) hS.2.2 d_Co_wordCount_12
  exact (key n0) hP hD hS hl h0
noncomputable def bk_Co_typesInWord_0 : List Int32 → List Int64 → tq_S → Option tq_C
  | [], [], σ => tq_ob (tq_fI st_Co_typeCount (0, [], [], σ)) (fun r2 σ3 => if 64 ≤ r2 then some (tq_rt, [], [(-1)], σ3) else tq_ob (tq_fI st_Co_typeCount (0, [], [], σ3)) (fun r6 σ7 => some (tq_rt, [], [((jlshl 1 r6) - 1)], σ7)))
  | _, _, _ => none
noncomputable def st_Co_typesInWord (c : tq_C) : Option tq_C := if c.1 = 0 then bk_Co_typesInWord_0 c.2.1 c.2.2.1 c.2.2.2 else none
set_option maxHeartbeats 40000000 in
set_option maxRecDepth 100000 in
theorem c_Co_typesInWord (l : Launch) (dC : Nat → ClassId) (dI : Nat → Nat → Nat) (cI cL cZ : ClassId) (ad : Nat → Nat) (tt : Nat) (sz : Nat) (σ : tq_S) (r : Int64) (σ' : tq_S) (hf : tq_fL st_Co_typesInWord (0, [], [], σ) = some (r, σ')) : Met l y_Co_typesInWord w_Co_typesInWord ({ frames := 1, cells := 0, slots := 0, locals := 20 } : Room) (va_Pc [.ref (ad 1)] (tq_B dC dI cI cL cZ tt (wo cI cL cZ ad σ) sz)) (va_Ql (fun (r' : Int64) (u : tq_S) => r' = r ∧ u = σ') (tq_E dC dI cI cL cZ (wo cI cL cZ ad) (va_A (wo cI cL cZ ad σ) sz)) (va_A (wo cI cL cZ ad σ) sz)) 0 0 (va_A (wo cI cL cZ ad σ) sz) := by
  obtain ⟨n0, h0⟩ := tq_fL_to hf
  refine Met.ofW (cc := prog_2_method_6_code) (maxL := 1) (ret := (some .long)) (by decide) rfl ?_
  intro p e s m args below meth c s₁ B hml hv
  obtain ⟨rfl, hsz, hP, hK, hD0, hZ, hN⟩ := hv
  have hx := B.exec
  have hb := B.bytes
  have hr := B.returns
  have hts : ∀ w ∈ tq_T, w.before _ s = true := fun w h => atoms_spec (ws := w_Co_typesInWord) B.pre w (List.mem_cons_of_mem _ h)
  have hown : s.vm.findClass "TableauNodes$Concepts" = some m.cls := findClass_of_methodNamed B.named
  have hlocks := B.notSynchronized
  subst hsz
  have hD := hD0.self (sz := s.heap.size)
  have hS : va_S (va_A (wo cI cL cZ ad σ) s.heap.size) s.heap s.heap [] := va_S.rf
  have hA : ∀ q : Nat, s.heap.size ≤ q → va_A (wo cI cL cZ ad σ) s.heap.size q := fun q h => Or.inr h
  generalize va_A (wo cI cL cZ ad σ) s.heap.size = A at hD hS hA hZ ⊢
  have hl := lv_entry ([.ref (ad 1)]) (n := 1) (Nat.le_of_ble_eq_true rfl)
  rw [lg_entry_eq]
  generalize (lg_sl ([.ref (ad 1)]) ++ List.replicate (1 - (lg_sl ([.ref (ad 1)])).length) Slot.unset).toArray = ls at hl ⊢
  have hl : lv_has ls 1 [(0, .ref (ad 1))] := hl
  have key : ∀ n : Nat, (∀ {σ : tq_S} {H : Heap} {locs : List Loc} {ls : Array Slot}, va_P (dC, dI) tq_cl (wo cI cL cZ ad σ) H → va_D A (wo cI cL cZ ad σ) → va_S A s.heap H locs → lv_has ls 1 [(0, .ref (ad 1))] → tq_go st_Co_typesInWord n (0, [], [], σ) = some (tq_rt, [], [r], σ') → W p l e (headSpec w_Co_typesInWord ({ frames := 1, cells := 0, slots := 0, locals := 20 } : Room)).room s m ([.ref (ad 1)] : List Value).toArray below meth c H locs 0 0 (MQ below (va_Ql (fun (r' : Int64) (u : tq_S) => r' = r ∧ u = σ') (tq_E dC dI cI cL cZ (wo cI cL cZ ad) A) A) ([.ref (ad 1)] : List Value).toArray s 0 0 A) (F0 m 0 ls [])) := by
    intro n
    induction n with
    | zero => exact fun _ _ _ _ h => by cases h
    | succ n ih =>
      intro  σ H locs ls hP hD hS hl h9
      obtain ⟨q9, hg, hn⟩ := tq_go_s h9 (show ¬ (0 : Nat) = tq_rt by decide)
      replace hg : bk_Co_typesInWord_0 [] [] σ = some q9 := hg
      unfold bk_Co_typesInWord_0 at hg
      refine lv_aload_n hx hb d_Co_typesInWord_0 rfl (lv_at hl 0 rfl) ?_
      obtain ⟨r2, σ3, f1, hg⟩ := tq_ob_s hg
      refine tq_aI (va_runV (As := []) (rest := []) ⟨hx, hb, hml, hown, hts⟩ (c_Co_typeCount l dC dI cI cL cZ ad tt H.size σ   r2 σ3 f1) (cwV 0 hts (tq_gV tw_342 tw_343 tw_344 tw_2 tw_345) rfl rfl rfl (by decide +kernel) ⟨Nat.le_of_ble_eq_true rfl, Nat.le_of_ble_eq_true rfl⟩) ⟨tq_bl, va_recv hK hP (ci := 1) (q0 := 1) rfl rfl, (tq_pr hP hK hD hS hA hZ hN)⟩ rfl rfl hl.1 rfl (lv_room (Nat.le_of_ble_eq_true rfl)) d_Co_typesInWord_1 ⟨Nat.zero_le _, Nat.zero_le _⟩) hD hS hA (fun H locs hP hD hS => ?_)
      refine lv_bipush (v := 64) hx hb d_Co_typesInWord_4 (by decide) ?_
      refine lv_icmp_ge (tgt := 20) hx hb d_Co_typesInWord_6 (by decide) (fun c4 => ?_) (fun c4 => ?_)
      · replace hg := tq_if_t c4 hg
        refine lv_ldc2 (v := (-1)) hx hb hown (hts _ tw_41) d_Co_typesInWord_20 ?_
        exact W.lret (v := (-1)) hx hb hr (fun t ht hW => ⟨⟨(-1), σ3, rfl, tq_grL hg hn, by rw [ht]; exact hP, va_K.moved hW.alike hK, hD⟩, hS.F ht⟩) hS.2.2 d_Co_typesInWord_23
      · replace hg := tq_if_f c4 hg
        refine lv_lconst (v := 1) hx hb d_Co_typesInWord_9 (by decide) ?_
        refine lv_aload_n hx hb d_Co_typesInWord_10 rfl (lv_at hl 0 rfl) ?_
        obtain ⟨r6, σ7, f5, hg⟩ := tq_ob_s hg
        refine tq_aI (va_runV (As := []) (rest := [.long 1]) ⟨hx, hb, hml, hown, hts⟩ (c_Co_typeCount l dC dI cI cL cZ ad tt H.size σ3   r6 σ7 f5) (cwV 0 hts (tq_gV tw_342 tw_343 tw_344 tw_2 tw_345) rfl rfl rfl (by decide +kernel) ⟨Nat.le_of_ble_eq_true rfl, Nat.le_of_ble_eq_true rfl⟩) ⟨tq_bl, va_recv hK hP (ci := 1) (q0 := 1) rfl rfl, (tq_pr hP hK hD hS hA hZ hN)⟩ rfl rfl hl.1 rfl (lv_room (Nat.le_of_ble_eq_true rfl)) d_Co_typesInWord_11 ⟨Nat.zero_le _, Nat.zero_le _⟩) hD hS hA (fun H locs hP hD hS => ?_)
        refine lv_lshl hx hb d_Co_typesInWord_14 rfl ?_
        refine lv_lconst (v := 1) hx hb d_Co_typesInWord_15 (by decide) ?_
        refine lv_lsub hx hb d_Co_typesInWord_16 ?_
        refine lv_goto (tgt := 23) hx hb d_Co_typesInWord_17 (by decide) ?_
        exact W.lret (v := ((jlshl 1 r6) - 1)) hx hb hr (fun t ht hW => ⟨⟨((jlshl 1 r6) - 1), σ7, rfl, tq_grL hg hn, by rw [ht]; exact hP, va_K.moved hW.alike hK, hD⟩, hS.F ht⟩) hS.2.2 d_Co_typesInWord_23
  exact (key n0) hP hD hS hl h0
noncomputable def bk_Co_inners_0 : List Int32 → List Int64 → tq_S → Option tq_C
  | [x1], [], σ => tq_ob (tq_fI st_Tn_isBelow (0, [x1, 1024], [], σ)) (fun r2 σ3 => if r2 = 0 then some (tq_rt, [0], [], σ3) else tq_gd x1 1024 (some (tq_rt, [(ia σ3 4 x1)], [], σ3)))
  | _, _, _ => none
noncomputable def st_Co_inners (c : tq_C) : Option tq_C := if c.1 = 0 then bk_Co_inners_0 c.2.1 c.2.2.1 c.2.2.2 else none
set_option maxHeartbeats 40000000 in
set_option maxRecDepth 100000 in
theorem c_Co_inners (l : Launch) (dC : Nat → ClassId) (dI : Nat → Nat → Nat) (cI cL cZ : ClassId) (ad : Nat → Nat) (tt : Nat) (sz : Nat) (σ : tq_S) (a1 : Int32) (r : Int32) (σ' : tq_S) (hf : tq_fI st_Co_inners (0, [a1], [], σ) = some (r, σ')) : Met l y_Co_inners w_Co_inners ({ frames := 1, cells := 0, slots := 0, locals := 21 } : Room) (va_Pc [.ref (ad 1), .int a1] (tq_B dC dI cI cL cZ tt (wo cI cL cZ ad σ) sz)) (va_Qi (fun (r' : Int32) (u : tq_S) => r' = r ∧ u = σ') (tq_E dC dI cI cL cZ (wo cI cL cZ ad) (va_A (wo cI cL cZ ad σ) sz)) (va_A (wo cI cL cZ ad σ) sz)) 0 0 (va_A (wo cI cL cZ ad σ) sz) := by
  obtain ⟨n0, h0⟩ := tq_fI_to hf
  refine Met.ofW (cc := prog_2_method_15_code) (maxL := 2) (ret := (some .int)) (by decide) rfl ?_
  intro p e s m args below meth c s₁ B hml hv
  obtain ⟨rfl, hsz, hP, hK, hD0, hZ, hN⟩ := hv
  have hx := B.exec
  have hb := B.bytes
  have hr := B.returns
  have hts : ∀ w ∈ tq_T, w.before _ s = true := fun w h => atoms_spec (ws := w_Co_inners) B.pre w (List.mem_cons_of_mem _ h)
  have hown : s.vm.findClass "TableauNodes$Concepts" = some m.cls := findClass_of_methodNamed B.named
  have hlocks := B.notSynchronized
  subst hsz
  have hD := hD0.self (sz := s.heap.size)
  have hS : va_S (va_A (wo cI cL cZ ad σ) s.heap.size) s.heap s.heap [] := va_S.rf
  have hA : ∀ q : Nat, s.heap.size ≤ q → va_A (wo cI cL cZ ad σ) s.heap.size q := fun q h => Or.inr h
  generalize va_A (wo cI cL cZ ad σ) s.heap.size = A at hD hS hA hZ ⊢
  have hl := lv_entry ([.ref (ad 1), .int a1]) (n := 2) (Nat.le_of_ble_eq_true rfl)
  rw [lg_entry_eq]
  generalize (lg_sl ([.ref (ad 1), .int a1]) ++ List.replicate (2 - (lg_sl ([.ref (ad 1), .int a1])).length) Slot.unset).toArray = ls at hl ⊢
  have hl : lv_has ls 2 [(0, .ref (ad 1)), (1, .int a1)] := hl
  have key : ∀ n : Nat, (∀ {x1 : Int32} {σ : tq_S} {H : Heap} {locs : List Loc} {ls : Array Slot}, va_P (dC, dI) tq_cl (wo cI cL cZ ad σ) H → va_D A (wo cI cL cZ ad σ) → va_S A s.heap H locs → lv_has ls 2 [(0, .ref (ad 1)), (1, .int x1)] → tq_go st_Co_inners n (0, [x1], [], σ) = some (tq_rt, [r], [], σ') → W p l e (headSpec w_Co_inners ({ frames := 1, cells := 0, slots := 0, locals := 21 } : Room)).room s m ([.ref (ad 1), .int a1] : List Value).toArray below meth c H locs 0 0 (MQ below (va_Qi (fun (r' : Int32) (u : tq_S) => r' = r ∧ u = σ') (tq_E dC dI cI cL cZ (wo cI cL cZ ad) A) A) ([.ref (ad 1), .int a1] : List Value).toArray s 0 0 A) (F0 m 0 ls [])) := by
    intro n
    induction n with
    | zero => exact fun _ _ _ _ h => by cases h
    | succ n ih =>
      intro x1 σ H locs ls hP hD hS hl h9
      obtain ⟨q9, hg, hn⟩ := tq_go_s h9 (show ¬ (0 : Nat) = tq_rt by decide)
      replace hg : bk_Co_inners_0 [x1] [] σ = some q9 := hg
      unfold bk_Co_inners_0 at hg
      refine lv_iload_n hx hb d_Co_inners_0 rfl (lv_at hl 1 rfl) ?_
      refine lv_sipush (v := 1024) hx hb d_Co_inners_1 (by decide) ?_
      obtain ⟨r2, σ3, f1, hg⟩ := tq_ob_s hg
      refine tq_aI (va_runSN (As := [.int x1, .int 1024]) (rest := []) ⟨hx, hb, hml, hown, hts⟩ (c_Tn_isBelow l dC dI cI cL cZ ad tt H.size σ x1 1024  r2 σ3 f1) ⟨va_cnB 2 hts (tq_gC tw_239) rfl rfl rfl (hN _ (List.mem_of_getElem? (i := 3) rfl)) (hts _ tw_1) (by decide +kernel) ⟨Nat.le_of_ble_eq_true rfl, Nat.le_of_ble_eq_true rfl⟩, hts _ tw_238, trivial⟩ ⟨tq_bl, (tq_pr hP hK hD hS hA hZ hN)⟩ rfl rfl hl.1 rfl (lv_room (Nat.le_of_ble_eq_true rfl)) d_Co_inners_4 ⟨Nat.zero_le _, Nat.zero_le _⟩) hD hS hA (fun H locs hP hD hS => ?_)
      refine lv_if_eq (tgt := 19) hx hb d_Co_inners_7 (by decide) (fun c4 => ?_) (fun c4 => ?_)
      · replace hg := tq_if_t c4 hg
        refine lv_iconst (v := 0) hx hb d_Co_inners_19 (by decide) ?_
        exact W.iret (v := 0) hx hb hr (fun t ht hW => ⟨⟨0, σ3, rfl, tq_grI hg hn, by rw [ht]; exact hP, va_K.moved hW.alike hK, hD⟩, hS.F ht⟩) hS.2.2 d_Co_inners_20
      · replace hg := tq_if_f c4 hg
        refine lv_aload_n hx hb d_Co_inners_10 rfl (lv_at hl 0 rfl) ?_
        refine va_get (D := (dC, dI)) (ci := 1) (v := .ref (ad 12)) (C := "TableauNodes$Concepts") (T := F_Co) (N := 9) hx hb hts in_Co hown hK hP 1 rfl rfl 6 (by decide) (hts _ tw_69) (fun _ h9 => h9) rfl d_Co_inners_11 ?_
        refine lv_iload_n hx hb d_Co_inners_14 rfl (lv_at hl 1 rfl) ?_
        obtain ⟨g5, hg⟩ := tq_gd_s hg
        refine va_iald hx hb hK hP 12 0 rfl rfl g5 d_Co_inners_15 ?_
        refine lv_goto (tgt := 20) hx hb d_Co_inners_16 (by decide) ?_
        exact W.iret (v := (ia σ3 4 x1)) hx hb hr (fun t ht hW => ⟨⟨(ia σ3 4 x1), σ3, rfl, tq_grI hg hn, by rw [ht]; exact hP, va_K.moved hW.alike hK, hD⟩, hS.F ht⟩) hS.2.2 d_Co_inners_20
  exact (key n0) hP hD hS hl h0
noncomputable def bk_Co_innerWord_0 : List Int32 → List Int64 → tq_S → Option tq_C
  | [x1, x2], [], σ => if x1 < 0 then some (24, [x1, x2], [], σ) else if 10 ≤ x1 then some (24, [x1, x2], [], σ) else if x2 < 0 then some (24, [x1, x2], [], σ) else if 16 ≤ x2 then some (24, [x1, x2], [], σ) else tq_gd ((x1 * 16) + x2) 160 (some (tq_rt, [], [(la σ 1 ((x1 * 16) + x2))], σ))
  | _, _, _ => none
noncomputable def bk_Co_innerWord_24 : List Int32 → List Int64 → tq_S → Option tq_C
  | [x1, x2], [], σ => some (tq_rt, [], [0], σ)
  | _, _, _ => none
noncomputable def st_Co_innerWord (c : tq_C) : Option tq_C := if c.1 = 0 then bk_Co_innerWord_0 c.2.1 c.2.2.1 c.2.2.2 else if c.1 = 24 then bk_Co_innerWord_24 c.2.1 c.2.2.1 c.2.2.2 else none
set_option maxHeartbeats 40000000 in
set_option maxRecDepth 100000 in
theorem c_Co_innerWord (l : Launch) (dC : Nat → ClassId) (dI : Nat → Nat → Nat) (cI cL cZ : ClassId) (ad : Nat → Nat) (tt : Nat) (sz : Nat) (σ : tq_S) (a1 : Int32) (a2 : Int32) (r : Int64) (σ' : tq_S) (hf : tq_fL st_Co_innerWord (0, [a1, a2], [], σ) = some (r, σ')) : Met l y_Co_innerWord w_Co_innerWord ({ frames := 0, cells := 0, slots := 0, locals := 0 } : Room) (va_Pc [.ref (ad 1), .int a1, .int a2] (tq_B dC dI cI cL cZ tt (wo cI cL cZ ad σ) sz)) (va_Ql (fun (r' : Int64) (u : tq_S) => r' = r ∧ u = σ') (tq_E dC dI cI cL cZ (wo cI cL cZ ad) (va_A (wo cI cL cZ ad σ) sz)) (va_A (wo cI cL cZ ad σ) sz)) 0 0 (va_A (wo cI cL cZ ad σ) sz) := by
  obtain ⟨n0, h0⟩ := tq_fL_to hf
  refine Met.ofW (cc := prog_2_method_14_code) (maxL := 4) (ret := (some .long)) (by decide) rfl ?_
  intro p e s m args below meth c s₁ B hml hv
  obtain ⟨rfl, hsz, hP, hK, hD0, hZ, hN⟩ := hv
  have hx := B.exec
  have hb := B.bytes
  have hr := B.returns
  have hts : ∀ w ∈ tq_T, w.before _ s = true := fun w h => atoms_spec (ws := w_Co_innerWord) B.pre w (List.mem_cons_of_mem _ h)
  have hown : s.vm.findClass "TableauNodes$Concepts" = some m.cls := findClass_of_methodNamed B.named
  have hlocks := B.notSynchronized
  subst hsz
  have hD := hD0.self (sz := s.heap.size)
  have hS : va_S (va_A (wo cI cL cZ ad σ) s.heap.size) s.heap s.heap [] := va_S.rf
  have hA : ∀ q : Nat, s.heap.size ≤ q → va_A (wo cI cL cZ ad σ) s.heap.size q := fun q h => Or.inr h
  generalize va_A (wo cI cL cZ ad σ) s.heap.size = A at hD hS hA hZ ⊢
  have hl := lv_entry ([.ref (ad 1), .int a1, .int a2]) (n := 4) (Nat.le_of_ble_eq_true rfl)
  rw [lg_entry_eq]
  generalize (lg_sl ([.ref (ad 1), .int a1, .int a2]) ++ List.replicate (4 - (lg_sl ([.ref (ad 1), .int a1, .int a2])).length) Slot.unset).toArray = ls at hl ⊢
  have hl : lv_has ls 4 [(0, .ref (ad 1)), (1, .int a1), (2, .int a2)] := hl
  have key : ∀ n : Nat, (∀ {x1 x2 : Int32} {σ : tq_S} {H : Heap} {locs : List Loc} {ls : Array Slot}, va_P (dC, dI) tq_cl (wo cI cL cZ ad σ) H → va_D A (wo cI cL cZ ad σ) → va_S A s.heap H locs → lv_has ls 4 [(0, .ref (ad 1)), (1, .int x1), (2, .int x2)] → tq_go st_Co_innerWord n (0, [x1, x2], [], σ) = some (tq_rt, [], [r], σ') → W p l e (headSpec w_Co_innerWord ({ frames := 0, cells := 0, slots := 0, locals := 0 } : Room)).room s m ([.ref (ad 1), .int a1, .int a2] : List Value).toArray below meth c H locs 0 0 (MQ below (va_Ql (fun (r' : Int64) (u : tq_S) => r' = r ∧ u = σ') (tq_E dC dI cI cL cZ (wo cI cL cZ ad) A) A) ([.ref (ad 1), .int a1, .int a2] : List Value).toArray s 0 0 A) (F0 m 0 ls [])) ∧ (∀ {x1 x2 : Int32} {σ : tq_S} {H : Heap} {locs : List Loc} {ls : Array Slot}, va_P (dC, dI) tq_cl (wo cI cL cZ ad σ) H → va_D A (wo cI cL cZ ad σ) → va_S A s.heap H locs → lv_has ls 4 [(0, .ref (ad 1)), (1, .int x1), (2, .int x2)] → tq_go st_Co_innerWord n (24, [x1, x2], [], σ) = some (tq_rt, [], [r], σ') → W p l e (headSpec w_Co_innerWord ({ frames := 0, cells := 0, slots := 0, locals := 0 } : Room)).room s m ([.ref (ad 1), .int a1, .int a2] : List Value).toArray below meth c H locs 0 0 (MQ below (va_Ql (fun (r' : Int64) (u : tq_S) => r' = r ∧ u = σ') (tq_E dC dI cI cL cZ (wo cI cL cZ ad) A) A) ([.ref (ad 1), .int a1, .int a2] : List Value).toArray s 0 0 A) (F0 m 24 ls [])) := by
    intro n
    induction n with
    | zero => exact ⟨(fun _ _ _ _ h => by cases h), (fun _ _ _ _ h => by cases h)⟩
    | succ n ih =>
      refine ⟨?_, ?_⟩
      · intro x1 x2 σ H locs ls hP hD hS hl h9
        obtain ⟨q9, hg, hn⟩ := tq_go_s h9 (show ¬ (0 : Nat) = tq_rt by decide)
        replace hg : bk_Co_innerWord_0 [x1, x2] [] σ = some q9 := hg
        unfold bk_Co_innerWord_0 at hg
        refine lv_iload_n hx hb d_Co_innerWord_0 rfl (lv_at hl 1 rfl) ?_
        refine lv_if_lt (tgt := 24) hx hb d_Co_innerWord_1 (by decide) (fun c1 => ?_) (fun c1 => ?_)
        · replace hg := tq_if_t c1 hg
          exact ih.2 hP hD hS (lv_sub hl [0, 1, 2] rfl) (tq_gi hg hn)
        · replace hg := tq_if_f c1 hg
          refine lv_iload_n hx hb d_Co_innerWord_4 rfl (lv_at hl 1 rfl) ?_
          refine lv_bipush (v := 10) hx hb d_Co_innerWord_5 (by decide) ?_
          refine lv_icmp_ge (tgt := 24) hx hb d_Co_innerWord_7 (by decide) (fun c2 => ?_) (fun c2 => ?_)
          · replace hg := tq_if_t c2 hg
            exact ih.2 hP hD hS (lv_sub hl [0, 1, 2] rfl) (tq_gi hg hn)
          · replace hg := tq_if_f c2 hg
            refine lv_iload_n hx hb d_Co_innerWord_10 rfl (lv_at hl 2 rfl) ?_
            refine lv_if_lt (tgt := 24) hx hb d_Co_innerWord_11 (by decide) (fun c3 => ?_) (fun c3 => ?_)
            · replace hg := tq_if_t c3 hg
              exact ih.2 hP hD hS (lv_sub hl [0, 1, 2] rfl) (tq_gi hg hn)
            · replace hg := tq_if_f c3 hg
              refine lv_iload_n hx hb d_Co_innerWord_14 rfl (lv_at hl 2 rfl) ?_
              refine lv_bipush (v := 16) hx hb d_Co_innerWord_15 (by decide) ?_
              refine lv_icmp_ge (tgt := 24) hx hb d_Co_innerWord_17 (by decide) (fun c4 => ?_) (fun c4 => ?_)
              · replace hg := tq_if_t c4 hg
                exact ih.2 hP hD hS (lv_sub hl [0, 1, 2] rfl) (tq_gi hg hn)
              · replace hg := tq_if_f c4 hg
                refine lv_iconst (v := 1) hx hb d_Co_innerWord_20 (by decide) ?_
                refine lv_goto (tgt := 25) hx hb d_Co_innerWord_21 (by decide) ?_
                refine lv_istore_n (lv' := [(3, .int 1), (0, .ref (ad 1)), (1, .int x1), (2, .int x2)]) hx hb d_Co_innerWord_25 rfl hl (by decide) rfl (fun ls hl => ?_)
                refine lv_iload_n hx hb d_Co_innerWord_26 rfl (lv_at hl 0 rfl) ?_
                refine lv_if_eq (tgt := 44) hx hb d_Co_innerWord_27 (by decide) (fun c => False.elim (by revert c; decide)) (fun _ => ?_)
                refine lv_aload_n hx hb d_Co_innerWord_30 rfl (lv_at hl 1 rfl) ?_
                refine va_get (D := (dC, dI)) (ci := 1) (v := .ref (ad 11)) (C := "TableauNodes$Concepts") (T := F_Co) (N := 9) hx hb hts in_Co hown hK hP 1 rfl rfl 5 (by decide) (hts _ tw_68) (fun _ h9 => h9) rfl d_Co_innerWord_31 ?_
                refine lv_iload_n hx hb d_Co_innerWord_34 rfl (lv_at hl 2 rfl) ?_
                refine lv_bipush (v := 16) hx hb d_Co_innerWord_35 (by decide) ?_
                refine lv_imul hx hb d_Co_innerWord_37 ?_
                refine lv_iload_n hx hb d_Co_innerWord_38 rfl (lv_at hl 3 rfl) ?_
                refine lv_iadd hx hb d_Co_innerWord_39 ?_
                obtain ⟨g6, hg⟩ := tq_gd_s hg
                refine va_lald hx hb hK hP 11 1 rfl rfl g6 d_Co_innerWord_40 ?_
                refine lv_goto (tgt := 45) hx hb d_Co_innerWord_41 (by decide) ?_
                exact W.lret (v := (la σ 1 ((x1 * 16) + x2))) hx hb hr (fun t ht hW => ⟨⟨(la σ 1 ((x1 * 16) + x2)), σ, rfl, tq_grL hg hn, by rw [ht]; exact hP, va_K.moved hW.alike hK, hD⟩, hS.F ht⟩) hS.2.2 d_Co_innerWord_45
      · intro x1 x2 σ H locs ls hP hD hS hl h9
        obtain ⟨q9, hg, hn⟩ := tq_go_s h9 (show ¬ (24 : Nat) = tq_rt by decide)
        replace hg : bk_Co_innerWord_24 [x1, x2] [] σ = some q9 := hg
        unfold bk_Co_innerWord_24 at hg
        refine lv_iconst (v := 0) hx hb d_Co_innerWord_24 (by decide) ?_
        refine lv_istore_n (lv' := [(3, .int 0), (0, .ref (ad 1)), (1, .int x1), (2, .int x2)]) hx hb d_Co_innerWord_25 rfl hl (by decide) rfl (fun ls hl => ?_)
        refine lv_iload_n hx hb d_Co_innerWord_26 rfl (lv_at hl 0 rfl) ?_
        refine lv_if_eq (tgt := 44) hx hb d_Co_innerWord_27 (by decide) (fun _ => ?_) (fun c => False.elim (by revert c; decide))
        refine lv_lconst (v := 0) hx hb d_Co_innerWord_44 (by decide) ?_
        exact W.lret (v := 0) hx hb hr (fun t ht hW => ⟨⟨0, σ, rfl, tq_grL hg hn, by rw [ht]; exact hP, va_K.moved hW.alike hK, hD⟩, hS.F ht⟩) hS.2.2 d_Co_innerWord_45
  exact (key n0).1 hP hD hS hl h0
noncomputable def bk_Co_holds_0 : List Int32 → List Int64 → tq_S → Option tq_C
  | [x1, x2], [], σ => tq_ob (tq_fL st_Co_word (0, [x1, (x2 / 64)], [], σ)) (fun r3 σ4 => tq_ob (tq_fI st_Tn_hasBit (0, [(jrem x2 64)], [r3], σ4)) (fun r7 σ8 => tq_gb r7 (some (tq_rt, [r7], [], σ8))))
  | _, _, _ => none
noncomputable def st_Co_holds (c : tq_C) : Option tq_C := if c.1 = 0 then bk_Co_holds_0 c.2.1 c.2.2.1 c.2.2.2 else none
set_option maxHeartbeats 40000000 in
set_option maxRecDepth 100000 in
theorem c_Co_holds (l : Launch) (dC : Nat → ClassId) (dI : Nat → Nat → Nat) (cI cL cZ : ClassId) (ad : Nat → Nat) (tt : Nat) (sz : Nat) (σ : tq_S) (a1 : Int32) (a2 : Int32) (r : Int32) (σ' : tq_S) (hf : tq_fI st_Co_holds (0, [a1, a2], [], σ) = some (r, σ')) : Met l y_Co_holds w_Co_holds ({ frames := 1, cells := 0, slots := 0, locals := 23 } : Room) (va_Pc [.ref (ad 1), .int a1, .int a2] (tq_B dC dI cI cL cZ tt (wo cI cL cZ ad σ) sz)) (va_Qi (fun (r' : Int32) (u : tq_S) => r' = r ∧ u = σ') (tq_E dC dI cI cL cZ (wo cI cL cZ ad) (va_A (wo cI cL cZ ad σ) sz)) (va_A (wo cI cL cZ ad σ) sz)) 0 0 (va_A (wo cI cL cZ ad σ) sz) := by
  obtain ⟨n0, h0⟩ := tq_fI_to hf
  refine Met.ofW (cc := prog_2_method_12_code) (maxL := 3) (ret := (some .boolean)) (by decide) rfl ?_
  intro p e s m args below meth c s₁ B hml hv
  obtain ⟨rfl, hsz, hP, hK, hD0, hZ, hN⟩ := hv
  have hx := B.exec
  have hb := B.bytes
  have hr := B.returns
  have hts : ∀ w ∈ tq_T, w.before _ s = true := fun w h => atoms_spec (ws := w_Co_holds) B.pre w (List.mem_cons_of_mem _ h)
  have hown : s.vm.findClass "TableauNodes$Concepts" = some m.cls := findClass_of_methodNamed B.named
  have hlocks := B.notSynchronized
  subst hsz
  have hD := hD0.self (sz := s.heap.size)
  have hS : va_S (va_A (wo cI cL cZ ad σ) s.heap.size) s.heap s.heap [] := va_S.rf
  have hA : ∀ q : Nat, s.heap.size ≤ q → va_A (wo cI cL cZ ad σ) s.heap.size q := fun q h => Or.inr h
  generalize va_A (wo cI cL cZ ad σ) s.heap.size = A at hD hS hA hZ ⊢
  have hl := lv_entry ([.ref (ad 1), .int a1, .int a2]) (n := 3) (Nat.le_of_ble_eq_true rfl)
  rw [lg_entry_eq]
  generalize (lg_sl ([.ref (ad 1), .int a1, .int a2]) ++ List.replicate (3 - (lg_sl ([.ref (ad 1), .int a1, .int a2])).length) Slot.unset).toArray = ls at hl ⊢
  have hl : lv_has ls 3 [(0, .ref (ad 1)), (1, .int a1), (2, .int a2)] := hl
  have key : ∀ n : Nat, (∀ {x1 x2 : Int32} {σ : tq_S} {H : Heap} {locs : List Loc} {ls : Array Slot}, va_P (dC, dI) tq_cl (wo cI cL cZ ad σ) H → va_D A (wo cI cL cZ ad σ) → va_S A s.heap H locs → lv_has ls 3 [(0, .ref (ad 1)), (1, .int x1), (2, .int x2)] → tq_go st_Co_holds n (0, [x1, x2], [], σ) = some (tq_rt, [r], [], σ') → W p l e (headSpec w_Co_holds ({ frames := 1, cells := 0, slots := 0, locals := 23 } : Room)).room s m ([.ref (ad 1), .int a1, .int a2] : List Value).toArray below meth c H locs 0 0 (MQ below (va_Qi (fun (r' : Int32) (u : tq_S) => r' = r ∧ u = σ') (tq_E dC dI cI cL cZ (wo cI cL cZ ad) A) A) ([.ref (ad 1), .int a1, .int a2] : List Value).toArray s 0 0 A) (F0 m 0 ls [])) := by
    intro n
    induction n with
    | zero => exact fun _ _ _ _ h => by cases h
    | succ n ih =>
      intro x1 x2 σ H locs ls hP hD hS hl h9
      obtain ⟨q9, hg, hn⟩ := tq_go_s h9 (show ¬ (0 : Nat) = tq_rt by decide)
      replace hg : bk_Co_holds_0 [x1, x2] [] σ = some q9 := hg
      unfold bk_Co_holds_0 at hg
      refine lv_aload_n hx hb d_Co_holds_0 rfl (lv_at hl 0 rfl) ?_
      refine lv_iload_n hx hb d_Co_holds_1 rfl (lv_at hl 1 rfl) ?_
      refine lv_iload_n hx hb d_Co_holds_2 rfl (lv_at hl 2 rfl) ?_
      refine lv_bipush (v := 64) hx hb d_Co_holds_3 (by decide) ?_
      refine lv_idiv hx hb d_Co_holds_5 (by decide) ?_
      obtain ⟨r3, σ4, f2, hg⟩ := tq_ob_s hg
      refine tq_aL (va_runV (As := [.int x1, .int (x2 / 64)]) (rest := []) ⟨hx, hb, hml, hown, hts⟩ (c_Co_word l dC dI cI cL cZ ad tt H.size σ x1 (x2 / 64)  r3 σ4 f2) (cwV 2 hts (tq_gV tw_48 tw_49 tw_50 tw_2 tw_51) rfl rfl rfl (by decide +kernel) ⟨Nat.le_of_ble_eq_true rfl, Nat.le_of_ble_eq_true rfl⟩) ⟨tq_bl, va_recv hK hP (ci := 1) (q0 := 1) rfl rfl, (tq_pr hP hK hD hS hA hZ hN)⟩ rfl rfl hl.1 rfl (lv_room (Nat.le_of_ble_eq_true rfl)) d_Co_holds_6 ⟨Nat.zero_le _, Nat.zero_le _⟩) hD hS hA (fun H locs hP hD hS => ?_)
      refine lv_iload_n hx hb d_Co_holds_9 rfl (lv_at hl 2 rfl) ?_
      refine lv_bipush (v := 64) hx hb d_Co_holds_10 (by decide) ?_
      refine lv_irem hx hb d_Co_holds_12 (by decide) ?_
      obtain ⟨r7, σ8, f6, hg⟩ := tq_ob_s hg
      refine tq_aI (va_runSN (As := [.long r3, .int (jrem x2 64)]) (rest := []) ⟨hx, hb, hml, hown, hts⟩ (c_Tn_hasBit l dC dI cI cL cZ ad tt H.size σ4 (jrem x2 64) r3 r7 σ8 f6) ⟨va_cnB 2 hts (tq_gC tw_62) rfl rfl rfl (hN _ (List.mem_of_getElem? (i := 0) rfl)) (hts _ tw_1) (by decide +kernel) ⟨Nat.le_of_ble_eq_true rfl, Nat.le_of_ble_eq_true rfl⟩, hts _ tw_61, trivial⟩ ⟨tq_bl, (tq_pr hP hK hD hS hA hZ hN)⟩ rfl rfl hl.1 rfl (lv_room (Nat.le_of_ble_eq_true rfl)) d_Co_holds_13 ⟨Nat.zero_le _, Nat.zero_le _⟩) hD hS hA (fun H locs hP hD hS => ?_)
      obtain ⟨b9, hg⟩ := tq_gb_s hg
      exact W.zret (v := r7) hx hb hr (tq_nb b9) (fun t ht hW => ⟨⟨r7, σ8, rfl, tq_grI hg hn, by rw [ht]; exact hP, va_K.moved hW.alike hK, hD⟩, hS.F ht⟩) hS.2.2 d_Co_holds_16
  exact (key n0) hP hD hS hl h0
noncomputable def bk_Go_addAxiom_0 : List Int32 → List Int64 → tq_S → Option tq_C
  | [x1, x2], [], σ => if (σ.2.2 2) < 30 then tq_gd (σ.2.2 2) 30 (tq_lj (iput σ 7 (σ.2.2 2).toNatClampNeg x1) (fun σ3 => tq_gd (σ3.2.2 2) 30 (tq_lj (iput σ3 8 (σ3.2.2 2).toNatClampNeg x2) (fun σ5 => tq_lj (fput σ5 2 ((σ5.2.2 2) + 1)) (fun σ6 => tq_lj (fput σ6 4 1) (fun σ7 => some (tq_rt, [((σ7.2.2 2) - 1)], [], σ7))))))) else some (tq_rt, [(-3)], [], σ)
  | _, _, _ => none
noncomputable def st_Go_addAxiom (c : tq_C) : Option tq_C := if c.1 = 0 then bk_Go_addAxiom_0 c.2.1 c.2.2.1 c.2.2.2 else none
set_option maxHeartbeats 40000000 in
set_option maxRecDepth 100000 in
theorem c_Go_addAxiom (l : Launch) (dC : Nat → ClassId) (dI : Nat → Nat → Nat) (cI cL cZ : ClassId) (ad : Nat → Nat) (tt : Nat) (sz : Nat) (σ : tq_S) (a1 : Int32) (a2 : Int32) (r : Int32) (σ' : tq_S) (hf : tq_fI st_Go_addAxiom (0, [a1, a2], [], σ) = some (r, σ')) : Met l y_Go_addAxiom w_Go_addAxiom ({ frames := 0, cells := 0, slots := 0, locals := 0 } : Room) (va_Pc [.ref (ad 3), .int a1, .int a2] (tq_B dC dI cI cL cZ tt (wo cI cL cZ ad σ) sz)) (va_Qi (fun (r' : Int32) (u : tq_S) => r' = r ∧ u = σ') (tq_E dC dI cI cL cZ (wo cI cL cZ ad) (va_A (wo cI cL cZ ad σ) sz)) (va_A (wo cI cL cZ ad σ) sz)) 0 0 (va_A (wo cI cL cZ ad σ) sz) := by
  obtain ⟨n0, h0⟩ := tq_fI_to hf
  refine Met.ofW (cc := prog_3_method_2_code) (maxL := 3) (ret := (some .int)) (by decide) rfl ?_
  intro p e s m args below meth c s₁ B hml hv
  obtain ⟨rfl, hsz, hP, hK, hD0, hZ, hN⟩ := hv
  have hx := B.exec
  have hb := B.bytes
  have hr := B.returns
  have hts : ∀ w ∈ tq_T, w.before _ s = true := fun w h => atoms_spec (ws := w_Go_addAxiom) B.pre w (List.mem_cons_of_mem _ h)
  have hown : s.vm.findClass "TableauNodes$GoodTypes" = some m.cls := findClass_of_methodNamed B.named
  have hlocks := B.notSynchronized
  subst hsz
  have hD := hD0.self (sz := s.heap.size)
  have hS : va_S (va_A (wo cI cL cZ ad σ) s.heap.size) s.heap s.heap [] := va_S.rf
  have hA : ∀ q : Nat, s.heap.size ≤ q → va_A (wo cI cL cZ ad σ) s.heap.size q := fun q h => Or.inr h
  generalize va_A (wo cI cL cZ ad σ) s.heap.size = A at hD hS hA hZ ⊢
  have hl := lv_entry ([.ref (ad 3), .int a1, .int a2]) (n := 3) (Nat.le_of_ble_eq_true rfl)
  rw [lg_entry_eq]
  generalize (lg_sl ([.ref (ad 3), .int a1, .int a2]) ++ List.replicate (3 - (lg_sl ([.ref (ad 3), .int a1, .int a2])).length) Slot.unset).toArray = ls at hl ⊢
  have hl : lv_has ls 3 [(0, .ref (ad 3)), (1, .int a1), (2, .int a2)] := hl
  have key : ∀ n : Nat, (∀ {x1 x2 : Int32} {σ : tq_S} {H : Heap} {locs : List Loc} {ls : Array Slot}, va_P (dC, dI) tq_cl (wo cI cL cZ ad σ) H → va_D A (wo cI cL cZ ad σ) → va_S A s.heap H locs → lv_has ls 3 [(0, .ref (ad 3)), (1, .int x1), (2, .int x2)] → tq_go st_Go_addAxiom n (0, [x1, x2], [], σ) = some (tq_rt, [r], [], σ') → W p l e (headSpec w_Go_addAxiom ({ frames := 0, cells := 0, slots := 0, locals := 0 } : Room)).room s m ([.ref (ad 3), .int a1, .int a2] : List Value).toArray below meth c H locs 0 0 (MQ below (va_Qi (fun (r' : Int32) (u : tq_S) => r' = r ∧ u = σ') (tq_E dC dI cI cL cZ (wo cI cL cZ ad) A) A) ([.ref (ad 3), .int a1, .int a2] : List Value).toArray s 0 0 A) (F0 m 0 ls [])) := by
    intro n
    induction n with
    | zero => exact fun _ _ _ _ h => by cases h
    | succ n ih =>
      intro x1 x2 σ H locs ls hP hD hS hl h9
      obtain ⟨q9, hg, hn⟩ := tq_go_s h9 (show ¬ (0 : Nat) = tq_rt by decide)
      replace hg : bk_Go_addAxiom_0 [x1, x2] [] σ = some q9 := hg
      unfold bk_Go_addAxiom_0 at hg
      refine lv_aload_n hx hb d_Go_addAxiom_0 rfl (lv_at hl 0 rfl) ?_
      refine va_get (D := (dC, dI)) (ci := 3) (v := .int (σ.2.2 2)) (C := "TableauNodes$GoodTypes") (T := F_Go) (N := 15) hx hb hts in_Go hown hK hP 3 rfl rfl 4 (by decide) (hts _ tw_121) (fun _ h9 => h9) rfl d_Go_addAxiom_1 ?_
      refine lv_bipush (v := 30) hx hb d_Go_addAxiom_4 (by decide) ?_
      refine lv_icmp_lt (tgt := 12) hx hb d_Go_addAxiom_6 (by decide) (fun c1 => ?_) (fun c1 => ?_)
      · replace hg := tq_if_t c1 hg
        refine lv_aload_n hx hb d_Go_addAxiom_12 rfl (lv_at hl 0 rfl) ?_
        refine va_get (D := (dC, dI)) (ci := 3) (v := .ref (ad 15)) (C := "TableauNodes$GoodTypes") (T := F_Go) (N := 15) hx hb hts in_Go hown hK hP 3 rfl rfl 2 (by decide) (hts _ tw_119) (fun _ h9 => h9) rfl d_Go_addAxiom_13 ?_
        refine lv_aload_n hx hb d_Go_addAxiom_16 rfl (lv_at hl 0 rfl) ?_
        refine va_get (D := (dC, dI)) (ci := 3) (v := .int (σ.2.2 2)) (C := "TableauNodes$GoodTypes") (T := F_Go) (N := 15) hx hb hts in_Go hown hK hP 3 rfl rfl 4 (by decide) (hts _ tw_121) (fun _ h9 => h9) rfl d_Go_addAxiom_17 ?_
        refine lv_iload_n hx hb d_Go_addAxiom_20 rfl (lv_at hl 1 rfl) ?_
        obtain ⟨g2, hg⟩ := tq_gd_s hg
        refine va_iast hx hb hK hP hD hS 15 0 rfl rfl g2 d_Go_addAxiom_21 (fun H locs hP hD hS => ?_)
        obtain ⟨σ3, eσ3, hg⟩ := tq_lj_s hg
        replace hP : va_P (dC, dI) tq_cl (wo cI cL cZ ad σ3) H := by rw [eσ3, ← ws_i7]; exact hP
        replace hD : va_D A (wo cI cL cZ ad σ3) := by rw [eσ3, ← ws_i7]; exact hD
        refine lv_aload_n hx hb d_Go_addAxiom_22 rfl (lv_at hl 0 rfl) ?_
        refine va_get (D := (dC, dI)) (ci := 3) (v := .ref (ad 16)) (C := "TableauNodes$GoodTypes") (T := F_Go) (N := 15) hx hb hts in_Go hown hK hP 3 rfl rfl 3 (by decide) (hts _ tw_120) (fun _ h9 => h9) rfl d_Go_addAxiom_23 ?_
        refine lv_aload_n hx hb d_Go_addAxiom_26 rfl (lv_at hl 0 rfl) ?_
        refine va_get (D := (dC, dI)) (ci := 3) (v := .int (σ3.2.2 2)) (C := "TableauNodes$GoodTypes") (T := F_Go) (N := 15) hx hb hts in_Go hown hK hP 3 rfl rfl 4 (by decide) (hts _ tw_121) (fun _ h9 => h9) rfl d_Go_addAxiom_27 ?_
        refine lv_iload_n hx hb d_Go_addAxiom_30 rfl (lv_at hl 2 rfl) ?_
        obtain ⟨g4, hg⟩ := tq_gd_s hg
        refine va_iast hx hb hK hP hD hS 16 0 rfl rfl g4 d_Go_addAxiom_31 (fun H locs hP hD hS => ?_)
        obtain ⟨σ5, eσ5, hg⟩ := tq_lj_s hg
        replace hP : va_P (dC, dI) tq_cl (wo cI cL cZ ad σ5) H := by rw [eσ5, ← ws_i8]; exact hP
        replace hD : va_D A (wo cI cL cZ ad σ5) := by rw [eσ5, ← ws_i8]; exact hD
        refine lv_aload_n hx hb d_Go_addAxiom_32 rfl (lv_at hl 0 rfl) ?_
        refine lv_dup hx hb d_Go_addAxiom_33 rfl ?_
        refine va_get (D := (dC, dI)) (ci := 3) (v := .int (σ5.2.2 2)) (C := "TableauNodes$GoodTypes") (T := F_Go) (N := 15) hx hb hts in_Go hown hK hP 3 rfl rfl 4 (by decide) (hts _ tw_121) (fun _ h9 => h9) rfl d_Go_addAxiom_34 ?_
        refine lv_iconst (v := 1) hx hb d_Go_addAxiom_37 (by decide) ?_
        refine lv_iadd hx hb d_Go_addAxiom_38 ?_
        refine va_put (D := (dC, dI)) (ci := 3) (v := .int ((σ5.2.2 2) + 1)) (ty := .int) (C := "TableauNodes$GoodTypes") (T := F_Go) (N := 15) hx hb hts in_Go ty_Go tk_Go nm_Go hown hK hP hD hS 3 rfl rfl 4 (by decide) (hts _ tw_121) (fun _ h9 => h9) rfl (by decide +kernel) rfl rfl (Nat.le_of_ble_eq_true rfl) d_Go_addAxiom_39 (fun H locs hP hD hS => ?_)
        obtain ⟨σ6, eσ6, hg⟩ := tq_lj_s hg
        replace hP : va_P (dC, dI) tq_cl (wo cI cL cZ ad σ6) H := by rw [eσ6, ← ws_f2]; exact hP
        replace hD : va_D A (wo cI cL cZ ad σ6) := by rw [eσ6, ← ws_f2]; exact hD
        refine lv_aload_n hx hb d_Go_addAxiom_42 rfl (lv_at hl 0 rfl) ?_
        refine lv_iconst (v := 1) hx hb d_Go_addAxiom_43 (by decide) ?_
        refine va_put (D := (dC, dI)) (ci := 3) (v := .int 1) (ty := .boolean) (C := "TableauNodes$GoodTypes") (T := F_Go) (N := 15) hx hb hts in_Go ty_Go tk_Go nm_Go hown hK hP hD hS 3 rfl rfl 12 (by decide) (hts _ tw_129) (fun _ h9 => h9) rfl (by decide +kernel) rfl rfl (Nat.le_of_ble_eq_true rfl) d_Go_addAxiom_44 (fun H locs hP hD hS => ?_)
        obtain ⟨σ7, eσ7, hg⟩ := tq_lj_s hg
        replace hP : va_P (dC, dI) tq_cl (wo cI cL cZ ad σ7) H := by rw [eσ7, ← ws_f4]; exact hP
        replace hD : va_D A (wo cI cL cZ ad σ7) := by rw [eσ7, ← ws_f4]; exact hD
        refine lv_aload_n hx hb d_Go_addAxiom_47 rfl (lv_at hl 0 rfl) ?_
        refine va_get (D := (dC, dI)) (ci := 3) (v := .int (σ7.2.2 2)) (C := "TableauNodes$GoodTypes") (T := F_Go) (N := 15) hx hb hts in_Go hown hK hP 3 rfl rfl 4 (by decide) (hts _ tw_121) (fun _ h9 => h9) rfl d_Go_addAxiom_48 ?_
        refine lv_iconst (v := 1) hx hb d_Go_addAxiom_51 (by decide) ?_
        refine lv_isub hx hb d_Go_addAxiom_52 ?_
        exact W.iret (v := ((σ7.2.2 2) - 1)) hx hb hr (fun t ht hW => ⟨⟨((σ7.2.2 2) - 1), σ7, rfl, tq_grI hg hn, by rw [ht]; exact hP, va_K.moved hW.alike hK, hD⟩, hS.F ht⟩) hS.2.2 d_Go_addAxiom_53
      · replace hg := tq_if_f c1 hg
        refine lv_bipush (v := (-3)) hx hb d_Go_addAxiom_9 (by decide) ?_
        exact W.iret (v := (-3)) hx hb hr (fun t ht hW => ⟨⟨(-3), σ, rfl, tq_grI hg hn, by rw [ht]; exact hP, va_K.moved hW.alike hK, hD⟩, hS.F ht⟩) hS.2.2 d_Go_addAxiom_11
  exact (key n0) hP hD hS hl h0
noncomputable def bk_Go_dropAxiom_0 : List Int32 → List Int64 → tq_S → Option tq_C
  | [], [], σ => if 0 < (σ.2.2 2) then tq_lj (fput σ 2 ((σ.2.2 2) - 1)) (fun σ2 => tq_lj (fput σ2 4 1) (fun σ3 => some (tq_rt, [(σ3.2.2 2)], [], σ3))) else some (tq_rt, [(-2)], [], σ)
  | _, _, _ => none
noncomputable def st_Go_dropAxiom (c : tq_C) : Option tq_C := if c.1 = 0 then bk_Go_dropAxiom_0 c.2.1 c.2.2.1 c.2.2.2 else none
set_option maxHeartbeats 40000000 in
set_option maxRecDepth 100000 in
theorem c_Go_dropAxiom (l : Launch) (dC : Nat → ClassId) (dI : Nat → Nat → Nat) (cI cL cZ : ClassId) (ad : Nat → Nat) (tt : Nat) (sz : Nat) (σ : tq_S) (r : Int32) (σ' : tq_S) (hf : tq_fI st_Go_dropAxiom (0, [], [], σ) = some (r, σ')) : Met l y_Go_dropAxiom w_Go_dropAxiom ({ frames := 0, cells := 0, slots := 0, locals := 0 } : Room) (va_Pc [.ref (ad 3)] (tq_B dC dI cI cL cZ tt (wo cI cL cZ ad σ) sz)) (va_Qi (fun (r' : Int32) (u : tq_S) => r' = r ∧ u = σ') (tq_E dC dI cI cL cZ (wo cI cL cZ ad) (va_A (wo cI cL cZ ad σ) sz)) (va_A (wo cI cL cZ ad σ) sz)) 0 0 (va_A (wo cI cL cZ ad σ) sz) := by
  obtain ⟨n0, h0⟩ := tq_fI_to hf
  refine Met.ofW (cc := prog_3_method_3_code) (maxL := 1) (ret := (some .int)) (by decide) rfl ?_
  intro p e s m args below meth c s₁ B hml hv
  obtain ⟨rfl, hsz, hP, hK, hD0, hZ, hN⟩ := hv
  have hx := B.exec
  have hb := B.bytes
  have hr := B.returns
  have hts : ∀ w ∈ tq_T, w.before _ s = true := fun w h => atoms_spec (ws := w_Go_dropAxiom) B.pre w (List.mem_cons_of_mem _ h)
  have hown : s.vm.findClass "TableauNodes$GoodTypes" = some m.cls := findClass_of_methodNamed B.named
  have hlocks := B.notSynchronized
  subst hsz
  have hD := hD0.self (sz := s.heap.size)
  have hS : va_S (va_A (wo cI cL cZ ad σ) s.heap.size) s.heap s.heap [] := va_S.rf
  have hA : ∀ q : Nat, s.heap.size ≤ q → va_A (wo cI cL cZ ad σ) s.heap.size q := fun q h => Or.inr h
  generalize va_A (wo cI cL cZ ad σ) s.heap.size = A at hD hS hA hZ ⊢
  have hl := lv_entry ([.ref (ad 3)]) (n := 1) (Nat.le_of_ble_eq_true rfl)
  rw [lg_entry_eq]
  generalize (lg_sl ([.ref (ad 3)]) ++ List.replicate (1 - (lg_sl ([.ref (ad 3)])).length) Slot.unset).toArray = ls at hl ⊢
  have hl : lv_has ls 1 [(0, .ref (ad 3))] := hl
  have key : ∀ n : Nat, (∀ {σ : tq_S} {H : Heap} {locs : List Loc} {ls : Array Slot}, va_P (dC, dI) tq_cl (wo cI cL cZ ad σ) H → va_D A (wo cI cL cZ ad σ) → va_S A s.heap H locs → lv_has ls 1 [(0, .ref (ad 3))] → tq_go st_Go_dropAxiom n (0, [], [], σ) = some (tq_rt, [r], [], σ') → W p l e (headSpec w_Go_dropAxiom ({ frames := 0, cells := 0, slots := 0, locals := 0 } : Room)).room s m ([.ref (ad 3)] : List Value).toArray below meth c H locs 0 0 (MQ below (va_Qi (fun (r' : Int32) (u : tq_S) => r' = r ∧ u = σ') (tq_E dC dI cI cL cZ (wo cI cL cZ ad) A) A) ([.ref (ad 3)] : List Value).toArray s 0 0 A) (F0 m 0 ls [])) := by
    intro n
    induction n with
    | zero => exact fun _ _ _ _ h => by cases h
    | succ n ih =>
      intro  σ H locs ls hP hD hS hl h9
      obtain ⟨q9, hg, hn⟩ := tq_go_s h9 (show ¬ (0 : Nat) = tq_rt by decide)
      replace hg : bk_Go_dropAxiom_0 [] [] σ = some q9 := hg
      unfold bk_Go_dropAxiom_0 at hg
      refine lv_aload_n hx hb d_Go_dropAxiom_0 rfl (lv_at hl 0 rfl) ?_
      refine va_get (D := (dC, dI)) (ci := 3) (v := .int (σ.2.2 2)) (C := "TableauNodes$GoodTypes") (T := F_Go) (N := 15) hx hb hts in_Go hown hK hP 3 rfl rfl 4 (by decide) (hts _ tw_121) (fun _ h9 => h9) rfl d_Go_dropAxiom_1 ?_
      refine lv_if_gt (tgt := 10) hx hb d_Go_dropAxiom_4 (by decide) (fun c1 => ?_) (fun c1 => ?_)
      · replace hg := tq_if_t c1 hg
        refine lv_aload_n hx hb d_Go_dropAxiom_10 rfl (lv_at hl 0 rfl) ?_
        refine lv_dup hx hb d_Go_dropAxiom_11 rfl ?_
        refine va_get (D := (dC, dI)) (ci := 3) (v := .int (σ.2.2 2)) (C := "TableauNodes$GoodTypes") (T := F_Go) (N := 15) hx hb hts in_Go hown hK hP 3 rfl rfl 4 (by decide) (hts _ tw_121) (fun _ h9 => h9) rfl d_Go_dropAxiom_12 ?_
        refine lv_iconst (v := 1) hx hb d_Go_dropAxiom_15 (by decide) ?_
        refine lv_isub hx hb d_Go_dropAxiom_16 ?_
        refine va_put (D := (dC, dI)) (ci := 3) (v := .int ((σ.2.2 2) - 1)) (ty := .int) (C := "TableauNodes$GoodTypes") (T := F_Go) (N := 15) hx hb hts in_Go ty_Go tk_Go nm_Go hown hK hP hD hS 3 rfl rfl 4 (by decide) (hts _ tw_121) (fun _ h9 => h9) rfl (by decide +kernel) rfl rfl (Nat.le_of_ble_eq_true rfl) d_Go_dropAxiom_17 (fun H locs hP hD hS => ?_)
        obtain ⟨σ2, eσ2, hg⟩ := tq_lj_s hg
        replace hP : va_P (dC, dI) tq_cl (wo cI cL cZ ad σ2) H := by rw [eσ2, ← ws_f2]; exact hP
        replace hD : va_D A (wo cI cL cZ ad σ2) := by rw [eσ2, ← ws_f2]; exact hD
        refine lv_aload_n hx hb d_Go_dropAxiom_20 rfl (lv_at hl 0 rfl) ?_
        refine lv_iconst (v := 1) hx hb d_Go_dropAxiom_21 (by decide) ?_
        refine va_put (D := (dC, dI)) (ci := 3) (v := .int 1) (ty := .boolean) (C := "TableauNodes$GoodTypes") (T := F_Go) (N := 15) hx hb hts in_Go ty_Go tk_Go nm_Go hown hK hP hD hS 3 rfl rfl 12 (by decide) (hts _ tw_129) (fun _ h9 => h9) rfl (by decide +kernel) rfl rfl (Nat.le_of_ble_eq_true rfl) d_Go_dropAxiom_22 (fun H locs hP hD hS => ?_)
        obtain ⟨σ3, eσ3, hg⟩ := tq_lj_s hg
        replace hP : va_P (dC, dI) tq_cl (wo cI cL cZ ad σ3) H := by rw [eσ3, ← ws_f4]; exact hP
        replace hD : va_D A (wo cI cL cZ ad σ3) := by rw [eσ3, ← ws_f4]; exact hD
        refine lv_aload_n hx hb d_Go_dropAxiom_25 rfl (lv_at hl 0 rfl) ?_
        refine va_get (D := (dC, dI)) (ci := 3) (v := .int (σ3.2.2 2)) (C := "TableauNodes$GoodTypes") (T := F_Go) (N := 15) hx hb hts in_Go hown hK hP 3 rfl rfl 4 (by decide) (hts _ tw_121) (fun _ h9 => h9) rfl d_Go_dropAxiom_26 ?_
        exact W.iret (v := (σ3.2.2 2)) hx hb hr (fun t ht hW => ⟨⟨(σ3.2.2 2), σ3, rfl, tq_grI hg hn, by rw [ht]; exact hP, va_K.moved hW.alike hK, hD⟩, hS.F ht⟩) hS.2.2 d_Go_dropAxiom_29
      · replace hg := tq_if_f c1 hg
        refine lv_bipush (v := (-2)) hx hb d_Go_dropAxiom_7 (by decide) ?_
        exact W.iret (v := (-2)) hx hb hr (fun t ht hW => ⟨⟨(-2), σ, rfl, tq_grI hg hn, by rw [ht]; exact hP, va_K.moved hW.alike hK, hD⟩, hS.F ht⟩) hS.2.2 d_Go_dropAxiom_9
  exact (key n0) hP hD hS hl h0
noncomputable def bk_Go_rolesChanged_0 : List Int32 → List Int64 → tq_S → Option tq_C
  | [], [], σ => tq_lj (fput σ 4 1) (fun σ1 => some (tq_rt, [], [], σ1))
  | _, _, _ => none
noncomputable def st_Go_rolesChanged (c : tq_C) : Option tq_C := if c.1 = 0 then bk_Go_rolesChanged_0 c.2.1 c.2.2.1 c.2.2.2 else none
set_option maxHeartbeats 40000000 in
set_option maxRecDepth 100000 in
theorem c_Go_rolesChanged (l : Launch) (dC : Nat → ClassId) (dI : Nat → Nat → Nat) (cI cL cZ : ClassId) (ad : Nat → Nat) (tt : Nat) (sz : Nat) (σ : tq_S) (σ' : tq_S) (hf : tq_fV st_Go_rolesChanged (0, [], [], σ) = some ((), σ')) : Met l y_Go_rolesChanged w_Go_rolesChanged ({ frames := 0, cells := 0, slots := 0, locals := 0 } : Room) (va_Pc [.ref (ad 3)] (tq_B dC dI cI cL cZ tt (wo cI cL cZ ad σ) sz)) (va_Qv (fun (u : tq_S) => u = σ') (tq_E dC dI cI cL cZ (wo cI cL cZ ad) (va_A (wo cI cL cZ ad σ) sz)) (va_A (wo cI cL cZ ad σ) sz)) 0 0 (va_A (wo cI cL cZ ad σ) sz) := by
  obtain ⟨n0, h0⟩ := tq_fV_to hf
  refine Met.ofW (cc := prog_3_method_4_code) (maxL := 1) (ret := none) (by decide) rfl ?_
  intro p e s m args below meth c s₁ B hml hv
  obtain ⟨rfl, hsz, hP, hK, hD0, hZ, hN⟩ := hv
  have hx := B.exec
  have hb := B.bytes
  have hr := B.returns
  have hts : ∀ w ∈ tq_T, w.before _ s = true := fun w h => atoms_spec (ws := w_Go_rolesChanged) B.pre w (List.mem_cons_of_mem _ h)
  have hown : s.vm.findClass "TableauNodes$GoodTypes" = some m.cls := findClass_of_methodNamed B.named
  have hlocks := B.notSynchronized
  subst hsz
  have hD := hD0.self (sz := s.heap.size)
  have hS : va_S (va_A (wo cI cL cZ ad σ) s.heap.size) s.heap s.heap [] := va_S.rf
  have hA : ∀ q : Nat, s.heap.size ≤ q → va_A (wo cI cL cZ ad σ) s.heap.size q := fun q h => Or.inr h
  generalize va_A (wo cI cL cZ ad σ) s.heap.size = A at hD hS hA hZ ⊢
  have hl := lv_entry ([.ref (ad 3)]) (n := 1) (Nat.le_of_ble_eq_true rfl)
  rw [lg_entry_eq]
  generalize (lg_sl ([.ref (ad 3)]) ++ List.replicate (1 - (lg_sl ([.ref (ad 3)])).length) Slot.unset).toArray = ls at hl ⊢
  have hl : lv_has ls 1 [(0, .ref (ad 3))] := hl
  have key : ∀ n : Nat, (∀ {σ : tq_S} {H : Heap} {locs : List Loc} {ls : Array Slot}, va_P (dC, dI) tq_cl (wo cI cL cZ ad σ) H → va_D A (wo cI cL cZ ad σ) → va_S A s.heap H locs → lv_has ls 1 [(0, .ref (ad 3))] → tq_go st_Go_rolesChanged n (0, [], [], σ) = some (tq_rt, [], [], σ') → W p l e (headSpec w_Go_rolesChanged ({ frames := 0, cells := 0, slots := 0, locals := 0 } : Room)).room s m ([.ref (ad 3)] : List Value).toArray below meth c H locs 0 0 (MQ below (va_Qv (fun (u : tq_S) => u = σ') (tq_E dC dI cI cL cZ (wo cI cL cZ ad) A) A) ([.ref (ad 3)] : List Value).toArray s 0 0 A) (F0 m 0 ls [])) := by
    intro n
    induction n with
    | zero => exact fun _ _ _ _ h => by cases h
    | succ n ih =>
      intro  σ H locs ls hP hD hS hl h9
      obtain ⟨q9, hg, hn⟩ := tq_go_s h9 (show ¬ (0 : Nat) = tq_rt by decide)
      replace hg : bk_Go_rolesChanged_0 [] [] σ = some q9 := hg
      unfold bk_Go_rolesChanged_0 at hg
      refine lv_aload_n hx hb d_Go_rolesChanged_0 rfl (lv_at hl 0 rfl) ?_
      refine lv_iconst (v := 1) hx hb d_Go_rolesChanged_1 (by decide) ?_
      refine va_put (D := (dC, dI)) (ci := 3) (v := .int 1) (ty := .boolean) (C := "TableauNodes$GoodTypes") (T := F_Go) (N := 15) hx hb hts in_Go ty_Go tk_Go nm_Go hown hK hP hD hS 3 rfl rfl 12 (by decide) (hts _ tw_129) (fun _ h9 => h9) rfl (by decide +kernel) rfl rfl (Nat.le_of_ble_eq_true rfl) d_Go_rolesChanged_2 (fun H locs hP hD hS => ?_)
      obtain ⟨σ1, eσ1, hg⟩ := tq_lj_s hg
      replace hP : va_P (dC, dI) tq_cl (wo cI cL cZ ad σ1) H := by rw [eσ1, ← ws_f4]; exact hP
      replace hD : va_D A (wo cI cL cZ ad σ1) := by rw [eσ1, ← ws_f4]; exact hD
      exact W.vret hx hb hr (fun t ht hW => ⟨⟨σ1, rfl, tq_grV hg hn, by rw [ht]; exact hP, va_K.moved hW.alike hK, hD⟩, hS.F ht⟩) hS.2.2 d_Go_rolesChanged_5
  exact (key n0) hP hD hS hl h0
noncomputable def bk_Go_sortSomes_0 : List Int32 → List Int64 → tq_S → Option tq_C
  | [], [], σ => some (2, [0], [], σ)
  | _, _, _ => none
noncomputable def bk_Go_sortSomes_2 : List Int32 → List Int64 → tq_S → Option tq_C
  | [x1], [], σ => if 4 ≤ x1 then some (tq_rt, [], [], σ) else tq_gd x1 4 (tq_lj (iput σ 9 x1.toNatClampNeg 0) (fun σ3 => tq_gd x1 4 (tq_lj (iput σ3 10 x1.toNatClampNeg 0) (fun σ5 => some (23, [x1, 0], [], σ5)))))
  | _, _, _ => none
noncomputable def bk_Go_sortSomes_23 : List Int32 → List Int64 → tq_S → Option tq_C
  | [x1, x2], [], σ => if 10 ≤ x2 then tq_lj (x1 + 1) (fun v7 => some (2, [v7], [], σ)) else tq_ob (tq_fI st_Co_isSome (0, [x2], [], σ)) (fun r9 σ10 => if ¬ r9 = 0 then tq_ob (tq_fI st_Co_roleOfSome (0, [x2], [], σ10)) (fun r13 σ14 => tq_gd x1 4 (if ¬ x1 = r13 then tq_gd x1 4 (tq_lj (iput σ14 9 x1.toNatClampNeg ((ia σ14 9 x1) ||| 0)) (fun σ18 => tq_gd x1 4 (tq_ob (tq_fI st_Ro_isUnder (0, [x1, r13], [], σ18)) (fun r21 σ22 => if r21 = 0 then tq_gd x1 4 (tq_lj (iput σ22 10 x1.toNatClampNeg ((ia σ18 10 x1) ||| 0)) (fun σ25 => tq_lj (x2 + 1) (fun v26 => some (23, [x1, v26], [], σ25)))) else tq_gd x1 4 (tq_lj (iput σ22 10 x1.toNatClampNeg ((ia σ18 10 x1) ||| (1 <<< (x2 &&& 31)))) (fun σ28 => tq_lj (x2 + 1) (fun v29 => some (23, [x1, v29], [], σ28)))))))) else tq_gd x1 4 (tq_lj (iput σ14 9 x1.toNatClampNeg ((ia σ14 9 x1) ||| (1 <<< (x2 &&& 31)))) (fun σ31 => tq_gd x1 4 (tq_ob (tq_fI st_Ro_isUnder (0, [x1, r13], [], σ31)) (fun r34 σ35 => if r34 = 0 then tq_gd x1 4 (tq_lj (iput σ35 10 x1.toNatClampNeg ((ia σ31 10 x1) ||| 0)) (fun σ38 => tq_lj (x2 + 1) (fun v39 => some (23, [x1, v39], [], σ38)))) else tq_gd x1 4 (tq_lj (iput σ35 10 x1.toNatClampNeg ((ia σ31 10 x1) ||| (1 <<< (x2 &&& 31)))) (fun σ41 => tq_lj (x2 + 1) (fun v42 => some (23, [x1, v42], [], σ41)))))))))) else tq_lj (x2 + 1) (fun v43 => some (23, [x1, v43], [], σ10)))
  | _, _, _ => none
noncomputable def st_Go_sortSomes (c : tq_C) : Option tq_C := if c.1 = 0 then bk_Go_sortSomes_0 c.2.1 c.2.2.1 c.2.2.2 else if c.1 = 2 then bk_Go_sortSomes_2 c.2.1 c.2.2.1 c.2.2.2 else if c.1 = 23 then bk_Go_sortSomes_23 c.2.1 c.2.2.1 c.2.2.2 else none
set_option maxHeartbeats 40000000 in
set_option maxRecDepth 100000 in
theorem c_Go_sortSomes (l : Launch) (dC : Nat → ClassId) (dI : Nat → Nat → Nat) (cI cL cZ : ClassId) (ad : Nat → Nat) (tt : Nat) (sz : Nat) (σ : tq_S) (σ' : tq_S) (hf : tq_fV st_Go_sortSomes (0, [], [], σ) = some ((), σ')) : Met l y_Go_sortSomes w_Go_sortSomes ({ frames := 3, cells := 0, slots := 0, locals := 63 } : Room) (va_Pc [.ref (ad 3)] (tq_B dC dI cI cL cZ tt (wo cI cL cZ ad σ) sz)) (va_Qv (fun (u : tq_S) => u = σ') (tq_E dC dI cI cL cZ (wo cI cL cZ ad) (va_A (wo cI cL cZ ad σ) sz)) (va_A (wo cI cL cZ ad σ) sz)) 0 0 (va_A (wo cI cL cZ ad σ) sz) := by
  obtain ⟨n0, h0⟩ := tq_fV_to hf
  refine Met.ofW (cc := prog_3_method_14_code) (maxL := 4) (ret := none) (by decide) rfl ?_
  intro p e s m args below meth c s₁ B hml hv
  obtain ⟨rfl, hsz, hP, hK, hD0, hZ, hN⟩ := hv
  have hx := B.exec
  have hb := B.bytes
  have hr := B.returns
  have hts : ∀ w ∈ tq_T, w.before _ s = true := fun w h => atoms_spec (ws := w_Go_sortSomes) B.pre w (List.mem_cons_of_mem _ h)
  have hown : s.vm.findClass "TableauNodes$GoodTypes" = some m.cls := findClass_of_methodNamed B.named
  have hlocks := B.notSynchronized
  subst hsz
  have hD := hD0.self (sz := s.heap.size)
  have hS : va_S (va_A (wo cI cL cZ ad σ) s.heap.size) s.heap s.heap [] := va_S.rf
  have hA : ∀ q : Nat, s.heap.size ≤ q → va_A (wo cI cL cZ ad σ) s.heap.size q := fun q h => Or.inr h
  generalize va_A (wo cI cL cZ ad σ) s.heap.size = A at hD hS hA hZ ⊢
  have hl := lv_entry ([.ref (ad 3)]) (n := 4) (Nat.le_of_ble_eq_true rfl)
  rw [lg_entry_eq]
  generalize (lg_sl ([.ref (ad 3)]) ++ List.replicate (4 - (lg_sl ([.ref (ad 3)])).length) Slot.unset).toArray = ls at hl ⊢
  have hl : lv_has ls 4 [(0, .ref (ad 3))] := hl
  have key : ∀ n : Nat, (∀ {σ : tq_S} {H : Heap} {locs : List Loc} {ls : Array Slot}, va_P (dC, dI) tq_cl (wo cI cL cZ ad σ) H → va_D A (wo cI cL cZ ad σ) → va_S A s.heap H locs → lv_has ls 4 [(0, .ref (ad 3))] → tq_go st_Go_sortSomes n (0, [], [], σ) = some (tq_rt, [], [], σ') → W p l e (headSpec w_Go_sortSomes ({ frames := 3, cells := 0, slots := 0, locals := 63 } : Room)).room s m ([.ref (ad 3)] : List Value).toArray below meth c H locs 0 0 (MQ below (va_Qv (fun (u : tq_S) => u = σ') (tq_E dC dI cI cL cZ (wo cI cL cZ ad) A) A) ([.ref (ad 3)] : List Value).toArray s 0 0 A) (F0 m 0 ls [])) ∧ (∀ {x1 : Int32} {σ : tq_S} {H : Heap} {locs : List Loc} {ls : Array Slot}, va_P (dC, dI) tq_cl (wo cI cL cZ ad σ) H → va_D A (wo cI cL cZ ad σ) → va_S A s.heap H locs → lv_has ls 4 [(0, .ref (ad 3)), (1, .int x1)] → tq_go st_Go_sortSomes n (2, [x1], [], σ) = some (tq_rt, [], [], σ') → W p l e (headSpec w_Go_sortSomes ({ frames := 3, cells := 0, slots := 0, locals := 63 } : Room)).room s m ([.ref (ad 3)] : List Value).toArray below meth c H locs 0 0 (MQ below (va_Qv (fun (u : tq_S) => u = σ') (tq_E dC dI cI cL cZ (wo cI cL cZ ad) A) A) ([.ref (ad 3)] : List Value).toArray s 0 0 A) (F0 m 2 ls [])) ∧ (∀ {x1 x2 : Int32} {σ : tq_S} {H : Heap} {locs : List Loc} {ls : Array Slot}, va_P (dC, dI) tq_cl (wo cI cL cZ ad σ) H → va_D A (wo cI cL cZ ad σ) → va_S A s.heap H locs → lv_has ls 4 [(0, .ref (ad 3)), (1, .int x1), (2, .int x2)] → tq_go st_Go_sortSomes n (23, [x1, x2], [], σ) = some (tq_rt, [], [], σ') → W p l e (headSpec w_Go_sortSomes ({ frames := 3, cells := 0, slots := 0, locals := 63 } : Room)).room s m ([.ref (ad 3)] : List Value).toArray below meth c H locs 0 0 (MQ below (va_Qv (fun (u : tq_S) => u = σ') (tq_E dC dI cI cL cZ (wo cI cL cZ ad) A) A) ([.ref (ad 3)] : List Value).toArray s 0 0 A) (F0 m 23 ls [])) := by
    intro n
    induction n with
    | zero => exact ⟨(fun _ _ _ _ h => by cases h), (fun _ _ _ _ h => by cases h), (fun _ _ _ _ h => by cases h)⟩
    | succ n ih =>
      refine ⟨?_, ?_, ?_⟩
      · intro  σ H locs ls hP hD hS hl h9
        obtain ⟨q9, hg, hn⟩ := tq_go_s h9 (show ¬ (0 : Nat) = tq_rt by decide)
        replace hg : bk_Go_sortSomes_0 [] [] σ = some q9 := hg
        unfold bk_Go_sortSomes_0 at hg
        refine lv_iconst (v := 0) hx hb d_Go_sortSomes_0 (by decide) ?_
        refine lv_istore_n (lv' := [(1, .int 0), (0, .ref (ad 3))]) hx hb d_Go_sortSomes_1 rfl hl (by decide) rfl (fun ls hl => ?_)
        exact ih.2.1 hP hD hS (lv_sub hl [1, 0] rfl) (tq_gi hg hn)
      · intro x1 σ H locs ls hP hD hS hl h9
        obtain ⟨q9, hg, hn⟩ := tq_go_s h9 (show ¬ (2 : Nat) = tq_rt by decide)
        replace hg : bk_Go_sortSomes_2 [x1] [] σ = some q9 := hg
        unfold bk_Go_sortSomes_2 at hg
        refine lv_iload_n hx hb d_Go_sortSomes_2 rfl (lv_at hl 1 rfl) ?_
        refine lv_iconst (v := 4) hx hb d_Go_sortSomes_3 (by decide) ?_
        refine lv_icmp_ge (tgt := 113) hx hb d_Go_sortSomes_4 (by decide) (fun c1 => ?_) (fun c1 => ?_)
        · replace hg := tq_if_t c1 hg
          exact W.vret hx hb hr (fun t ht hW => ⟨⟨σ, rfl, tq_grV hg hn, by rw [ht]; exact hP, va_K.moved hW.alike hK, hD⟩, hS.F ht⟩) hS.2.2 d_Go_sortSomes_113
        · replace hg := tq_if_f c1 hg
          refine lv_aload_n hx hb d_Go_sortSomes_7 rfl (lv_at hl 0 rfl) ?_
          refine va_get (D := (dC, dI)) (ci := 3) (v := .ref (ad 17)) (C := "TableauNodes$GoodTypes") (T := F_Go) (N := 15) hx hb hts in_Go hown hK hP 3 rfl rfl 5 (by decide) (hts _ tw_122) (fun _ h9 => h9) rfl d_Go_sortSomes_8 ?_
          refine lv_iload_n hx hb d_Go_sortSomes_11 rfl (lv_at hl 1 rfl) ?_
          refine lv_iconst (v := 0) hx hb d_Go_sortSomes_12 (by decide) ?_
          obtain ⟨g2, hg⟩ := tq_gd_s hg
          refine va_iast hx hb hK hP hD hS 17 0 rfl rfl g2 d_Go_sortSomes_13 (fun H locs hP hD hS => ?_)
          obtain ⟨σ3, eσ3, hg⟩ := tq_lj_s hg
          replace hP : va_P (dC, dI) tq_cl (wo cI cL cZ ad σ3) H := by rw [eσ3, ← ws_i9]; exact hP
          replace hD : va_D A (wo cI cL cZ ad σ3) := by rw [eσ3, ← ws_i9]; exact hD
          refine lv_aload_n hx hb d_Go_sortSomes_14 rfl (lv_at hl 0 rfl) ?_
          refine va_get (D := (dC, dI)) (ci := 3) (v := .ref (ad 18)) (C := "TableauNodes$GoodTypes") (T := F_Go) (N := 15) hx hb hts in_Go hown hK hP 3 rfl rfl 6 (by decide) (hts _ tw_123) (fun _ h9 => h9) rfl d_Go_sortSomes_15 ?_
          refine lv_iload_n hx hb d_Go_sortSomes_18 rfl (lv_at hl 1 rfl) ?_
          refine lv_iconst (v := 0) hx hb d_Go_sortSomes_19 (by decide) ?_
          obtain ⟨g4, hg⟩ := tq_gd_s hg
          refine va_iast hx hb hK hP hD hS 18 0 rfl rfl g4 d_Go_sortSomes_20 (fun H locs hP hD hS => ?_)
          obtain ⟨σ5, eσ5, hg⟩ := tq_lj_s hg
          replace hP : va_P (dC, dI) tq_cl (wo cI cL cZ ad σ5) H := by rw [eσ5, ← ws_i10]; exact hP
          replace hD : va_D A (wo cI cL cZ ad σ5) := by rw [eσ5, ← ws_i10]; exact hD
          refine lv_iconst (v := 0) hx hb d_Go_sortSomes_21 (by decide) ?_
          refine lv_istore_n (lv' := [(2, .int 0), (0, .ref (ad 3)), (1, .int x1)]) hx hb d_Go_sortSomes_22 rfl hl (by decide) rfl (fun ls hl => ?_)
          exact ih.2.2 hP hD hS (lv_sub hl [1, 2, 0] rfl) (tq_gi hg hn)
      · intro x1 x2 σ H locs ls hP hD hS hl h9
        obtain ⟨q9, hg, hn⟩ := tq_go_s h9 (show ¬ (23 : Nat) = tq_rt by decide)
        replace hg : bk_Go_sortSomes_23 [x1, x2] [] σ = some q9 := hg
        unfold bk_Go_sortSomes_23 at hg
        refine lv_iload_n hx hb d_Go_sortSomes_23 rfl (lv_at hl 2 rfl) ?_
        refine lv_bipush (v := 10) hx hb d_Go_sortSomes_24 (by decide) ?_
        refine lv_icmp_ge (tgt := 107) hx hb d_Go_sortSomes_26 (by decide) (fun c6 => ?_) (fun c6 => ?_)
        · replace hg := tq_if_t c6 hg
          obtain ⟨v7, ev7, hg⟩ := tq_lj_s hg
          refine lv_iinc (v := v7) (lv' := [(1, .int v7), (0, .ref (ad 3)), (2, .int x2)]) hx hb d_Go_sortSomes_107 hl (k := 1) rfl (by rw [ev7]; rfl) (by decide) rfl (fun ls hl => ?_)
          refine lv_goto (tgt := 2) hx hb d_Go_sortSomes_110 (by decide) ?_
          exact ih.2.1 hP hD hS (lv_sub hl [1, 0] rfl) (tq_gi hg hn)
        · replace hg := tq_if_f c6 hg
          refine lv_aload_n hx hb d_Go_sortSomes_29 rfl (lv_at hl 0 rfl) ?_
          refine va_get (D := (dC, dI)) (ci := 3) (v := .ref (ad 1)) (C := "TableauNodes$GoodTypes") (T := F_Go) (N := 15) hx hb hts in_Go hown hK hP 3 rfl rfl 0 (by decide) (hts _ tw_117) (fun _ h9 => h9) rfl d_Go_sortSomes_30 ?_
          refine lv_iload_n hx hb d_Go_sortSomes_33 rfl (lv_at hl 2 rfl) ?_
          obtain ⟨r9, σ10, f8, hg⟩ := tq_ob_s hg
          refine tq_aI (va_runV (As := [.int x2]) (rest := []) ⟨hx, hb, hml, hown, hts⟩ (c_Co_isSome l dC dI cI cL cZ ad tt H.size σ x2  r9 σ10 f8) (cwV 1 hts (tq_gV tw_320 tw_321 tw_322 tw_2 tw_323) rfl rfl rfl (by decide +kernel) ⟨Nat.le_of_ble_eq_true rfl, Nat.le_of_ble_eq_true rfl⟩) ⟨tq_bl, va_recv hK hP (ci := 1) (q0 := 1) rfl rfl, (tq_pr hP hK hD hS hA hZ hN)⟩ rfl rfl hl.1 rfl (lv_room (Nat.le_of_ble_eq_true rfl)) d_Go_sortSomes_34 ⟨Nat.zero_le _, Nat.zero_le _⟩) hD hS hA (fun H locs hP hD hS => ?_)
          refine lv_if_ne (tgt := 43) hx hb d_Go_sortSomes_37 (by decide) (fun c11 => ?_) (fun c11 => ?_)
          · replace hg := tq_if_t c11 hg
            refine lv_aload_n hx hb d_Go_sortSomes_43 rfl (lv_at hl 0 rfl) ?_
            refine va_get (D := (dC, dI)) (ci := 3) (v := .ref (ad 1)) (C := "TableauNodes$GoodTypes") (T := F_Go) (N := 15) hx hb hts in_Go hown hK hP 3 rfl rfl 0 (by decide) (hts _ tw_117) (fun _ h9 => h9) rfl d_Go_sortSomes_44 ?_
            refine lv_iload_n hx hb d_Go_sortSomes_47 rfl (lv_at hl 2 rfl) ?_
            obtain ⟨r13, σ14, f12, hg⟩ := tq_ob_s hg
            refine tq_aI (va_runV (As := [.int x2]) (rest := []) ⟨hx, hb, hml, hown, hts⟩ (c_Co_roleOfSome l dC dI cI cL cZ ad tt H.size σ10 x2  r13 σ14 f12) (cwV 1 hts (tq_gV tw_325 tw_326 tw_327 tw_2 tw_328) rfl rfl rfl (by decide +kernel) ⟨Nat.le_of_ble_eq_true rfl, Nat.le_of_ble_eq_true rfl⟩) ⟨tq_bl, va_recv hK hP (ci := 1) (q0 := 1) rfl rfl, (tq_pr hP hK hD hS hA hZ hN)⟩ rfl rfl hl.1 rfl (lv_room (Nat.le_of_ble_eq_true rfl)) d_Go_sortSomes_48 ⟨Nat.zero_le _, Nat.zero_le _⟩) hD hS hA (fun H locs hP hD hS => ?_)
            refine lv_istore_n (lv' := [(3, .int r13), (0, .ref (ad 3)), (1, .int x1), (2, .int x2)]) hx hb d_Go_sortSomes_51 rfl hl (by decide) rfl (fun ls hl => ?_)
            refine lv_aload_n hx hb d_Go_sortSomes_52 rfl (lv_at hl 1 rfl) ?_
            refine va_get (D := (dC, dI)) (ci := 3) (v := .ref (ad 17)) (C := "TableauNodes$GoodTypes") (T := F_Go) (N := 15) hx hb hts in_Go hown hK hP 3 rfl rfl 5 (by decide) (hts _ tw_122) (fun _ h9 => h9) rfl d_Go_sortSomes_53 ?_
            refine lv_iload_n hx hb d_Go_sortSomes_56 rfl (lv_at hl 2 rfl) ?_
            refine lv_dup2_11 hx hb d_Go_sortSomes_57 rfl rfl ?_
            obtain ⟨g15, hg⟩ := tq_gd_s hg
            refine va_iald hx hb hK hP 17 0 rfl rfl g15 d_Go_sortSomes_58 ?_
            refine lv_iload_n hx hb d_Go_sortSomes_59 rfl (lv_at hl 2 rfl) ?_
            refine lv_iload_n hx hb d_Go_sortSomes_60 rfl (lv_at hl 0 rfl) ?_
            refine lv_icmp_ne (tgt := 70) hx hb d_Go_sortSomes_61 (by decide) (fun c16 => ?_) (fun c16 => ?_)
            · replace hg := tq_if_t c16 hg
              refine lv_iconst (v := 0) hx hb d_Go_sortSomes_70 (by decide) ?_
              refine lv_ior hx hb d_Go_sortSomes_71 ?_
              obtain ⟨g17, hg⟩ := tq_gd_s hg
              refine va_iast hx hb hK hP hD hS 17 0 rfl rfl g17 d_Go_sortSomes_72 (fun H locs hP hD hS => ?_)
              obtain ⟨σ18, eσ18, hg⟩ := tq_lj_s hg
              replace hP : va_P (dC, dI) tq_cl (wo cI cL cZ ad σ18) H := by rw [eσ18, ← ws_i9]; exact hP
              replace hD : va_D A (wo cI cL cZ ad σ18) := by rw [eσ18, ← ws_i9]; exact hD
              refine lv_aload_n hx hb d_Go_sortSomes_73 rfl (lv_at hl 1 rfl) ?_
              refine va_get (D := (dC, dI)) (ci := 3) (v := .ref (ad 18)) (C := "TableauNodes$GoodTypes") (T := F_Go) (N := 15) hx hb hts in_Go hown hK hP 3 rfl rfl 6 (by decide) (hts _ tw_123) (fun _ h9 => h9) rfl d_Go_sortSomes_74 ?_
              refine lv_iload_n hx hb d_Go_sortSomes_77 rfl (lv_at hl 2 rfl) ?_
              refine lv_dup2_11 hx hb d_Go_sortSomes_78 rfl rfl ?_
              obtain ⟨g19, hg⟩ := tq_gd_s hg
              refine va_iald hx hb hK hP 18 0 rfl rfl g19 d_Go_sortSomes_79 ?_
              refine lv_aload_n hx hb d_Go_sortSomes_80 rfl (lv_at hl 1 rfl) ?_
              refine va_get (D := (dC, dI)) (ci := 3) (v := .ref (ad 2)) (C := "TableauNodes$GoodTypes") (T := F_Go) (N := 15) hx hb hts in_Go hown hK hP 3 rfl rfl 1 (by decide) (hts _ tw_118) (fun _ h9 => h9) rfl d_Go_sortSomes_81 ?_
              refine lv_iload_n hx hb d_Go_sortSomes_84 rfl (lv_at hl 2 rfl) ?_
              refine lv_iload_n hx hb d_Go_sortSomes_85 rfl (lv_at hl 0 rfl) ?_
              obtain ⟨r21, σ22, f20, hg⟩ := tq_ob_s hg
              refine tq_aI (va_runV (As := [.int x1, .int r13]) (rest := [.int (ia σ18 10 x1), .int x1, .ref (ad 18)]) ⟨hx, hb, hml, hown, hts⟩ (c_Ro_isUnder l dC dI cI cL cZ ad tt H.size σ18 x1 r13  r21 σ22 f20) (cwV 2 hts (tq_gV tw_330 tw_331 tw_332 tw_3 tw_333) rfl rfl rfl (by decide +kernel) ⟨Nat.le_of_ble_eq_true rfl, Nat.le_of_ble_eq_true rfl⟩) ⟨tq_bl, va_recv hK hP (ci := 2) (q0 := 2) rfl rfl, (tq_pr hP hK hD hS hA hZ hN)⟩ rfl rfl hl.1 rfl (lv_room (Nat.le_of_ble_eq_true rfl)) d_Go_sortSomes_86 ⟨Nat.zero_le _, Nat.zero_le _⟩) hD hS hA (fun H locs hP hD hS => ?_)
              refine lv_if_eq (tgt := 98) hx hb d_Go_sortSomes_89 (by decide) (fun c23 => ?_) (fun c23 => ?_)
              · replace hg := tq_if_t c23 hg
                refine lv_iconst (v := 0) hx hb d_Go_sortSomes_98 (by decide) ?_
                refine lv_ior hx hb d_Go_sortSomes_99 ?_
                obtain ⟨g24, hg⟩ := tq_gd_s hg
                refine va_iast hx hb hK hP hD hS 18 0 rfl rfl g24 d_Go_sortSomes_100 (fun H locs hP hD hS => ?_)
                obtain ⟨σ25, eσ25, hg⟩ := tq_lj_s hg
                replace hP : va_P (dC, dI) tq_cl (wo cI cL cZ ad σ25) H := by rw [eσ25, ← ws_i10]; exact hP
                replace hD : va_D A (wo cI cL cZ ad σ25) := by rw [eσ25, ← ws_i10]; exact hD
                obtain ⟨v26, ev26, hg⟩ := tq_lj_s hg
                refine lv_iinc (v := v26) (lv' := [(2, .int v26), (3, .int r13), (0, .ref (ad 3)), (1, .int x1)]) hx hb d_Go_sortSomes_101 hl (k := 3) rfl (by rw [ev26]; rfl) (by decide) rfl (fun ls hl => ?_)
                refine lv_goto (tgt := 23) hx hb d_Go_sortSomes_104 (by decide) ?_
                exact ih.2.2 hP hD hS (lv_sub hl [2, 3, 0] rfl) (tq_gi hg hn)
              · replace hg := tq_if_f c23 hg
                refine lv_iconst (v := 1) hx hb d_Go_sortSomes_92 (by decide) ?_
                refine lv_iload_n hx hb d_Go_sortSomes_93 rfl (lv_at hl 3 rfl) ?_
                refine lv_ishl hx hb d_Go_sortSomes_94 ?_
                refine lv_goto (tgt := 99) hx hb d_Go_sortSomes_95 (by decide) ?_
                refine lv_ior hx hb d_Go_sortSomes_99 ?_
                obtain ⟨g27, hg⟩ := tq_gd_s hg
                refine va_iast hx hb hK hP hD hS 18 0 rfl rfl g27 d_Go_sortSomes_100 (fun H locs hP hD hS => ?_)
                obtain ⟨σ28, eσ28, hg⟩ := tq_lj_s hg
                replace hP : va_P (dC, dI) tq_cl (wo cI cL cZ ad σ28) H := by rw [eσ28, ← ws_i10]; exact hP
                replace hD : va_D A (wo cI cL cZ ad σ28) := by rw [eσ28, ← ws_i10]; exact hD
                obtain ⟨v29, ev29, hg⟩ := tq_lj_s hg
                refine lv_iinc (v := v29) (lv' := [(2, .int v29), (3, .int r13), (0, .ref (ad 3)), (1, .int x1)]) hx hb d_Go_sortSomes_101 hl (k := 3) rfl (by rw [ev29]; rfl) (by decide) rfl (fun ls hl => ?_)
                refine lv_goto (tgt := 23) hx hb d_Go_sortSomes_104 (by decide) ?_
                exact ih.2.2 hP hD hS (lv_sub hl [2, 3, 0] rfl) (tq_gi hg hn)
            · replace hg := tq_if_n c16 hg
              refine lv_iconst (v := 1) hx hb d_Go_sortSomes_64 (by decide) ?_
              refine lv_iload_n hx hb d_Go_sortSomes_65 rfl (lv_at hl 3 rfl) ?_
              refine lv_ishl hx hb d_Go_sortSomes_66 ?_
              refine lv_goto (tgt := 71) hx hb d_Go_sortSomes_67 (by decide) ?_
              refine lv_ior hx hb d_Go_sortSomes_71 ?_
              obtain ⟨g30, hg⟩ := tq_gd_s hg
              refine va_iast hx hb hK hP hD hS 17 0 rfl rfl g30 d_Go_sortSomes_72 (fun H locs hP hD hS => ?_)
              obtain ⟨σ31, eσ31, hg⟩ := tq_lj_s hg
              replace hP : va_P (dC, dI) tq_cl (wo cI cL cZ ad σ31) H := by rw [eσ31, ← ws_i9]; exact hP
              replace hD : va_D A (wo cI cL cZ ad σ31) := by rw [eσ31, ← ws_i9]; exact hD
              refine lv_aload_n hx hb d_Go_sortSomes_73 rfl (lv_at hl 1 rfl) ?_
              refine va_get (D := (dC, dI)) (ci := 3) (v := .ref (ad 18)) (C := "TableauNodes$GoodTypes") (T := F_Go) (N := 15) hx hb hts in_Go hown hK hP 3 rfl rfl 6 (by decide) (hts _ tw_123) (fun _ h9 => h9) rfl d_Go_sortSomes_74 ?_
              refine lv_iload_n hx hb d_Go_sortSomes_77 rfl (lv_at hl 2 rfl) ?_
              refine lv_dup2_11 hx hb d_Go_sortSomes_78 rfl rfl ?_
              obtain ⟨g32, hg⟩ := tq_gd_s hg
              refine va_iald hx hb hK hP 18 0 rfl rfl g32 d_Go_sortSomes_79 ?_
              refine lv_aload_n hx hb d_Go_sortSomes_80 rfl (lv_at hl 1 rfl) ?_
              refine va_get (D := (dC, dI)) (ci := 3) (v := .ref (ad 2)) (C := "TableauNodes$GoodTypes") (T := F_Go) (N := 15) hx hb hts in_Go hown hK hP 3 rfl rfl 1 (by decide) (hts _ tw_118) (fun _ h9 => h9) rfl d_Go_sortSomes_81 ?_
              refine lv_iload_n hx hb d_Go_sortSomes_84 rfl (lv_at hl 2 rfl) ?_
              refine lv_iload_n hx hb d_Go_sortSomes_85 rfl (lv_at hl 0 rfl) ?_
              obtain ⟨r34, σ35, f33, hg⟩ := tq_ob_s hg
              refine tq_aI (va_runV (As := [.int x1, .int r13]) (rest := [.int (ia σ31 10 x1), .int x1, .ref (ad 18)]) ⟨hx, hb, hml, hown, hts⟩ (c_Ro_isUnder l dC dI cI cL cZ ad tt H.size σ31 x1 r13  r34 σ35 f33) (cwV 2 hts (tq_gV tw_330 tw_331 tw_332 tw_3 tw_333) rfl rfl rfl (by decide +kernel) ⟨Nat.le_of_ble_eq_true rfl, Nat.le_of_ble_eq_true rfl⟩) ⟨tq_bl, va_recv hK hP (ci := 2) (q0 := 2) rfl rfl, (tq_pr hP hK hD hS hA hZ hN)⟩ rfl rfl hl.1 rfl (lv_room (Nat.le_of_ble_eq_true rfl)) d_Go_sortSomes_86 ⟨Nat.zero_le _, Nat.zero_le _⟩) hD hS hA (fun H locs hP hD hS => ?_)
              refine lv_if_eq (tgt := 98) hx hb d_Go_sortSomes_89 (by decide) (fun c36 => ?_) (fun c36 => ?_)
              · replace hg := tq_if_t c36 hg
                refine lv_iconst (v := 0) hx hb d_Go_sortSomes_98 (by decide) ?_
                refine lv_ior hx hb d_Go_sortSomes_99 ?_
                obtain ⟨g37, hg⟩ := tq_gd_s hg
                refine va_iast hx hb hK hP hD hS 18 0 rfl rfl g37 d_Go_sortSomes_100 (fun H locs hP hD hS => ?_)
                obtain ⟨σ38, eσ38, hg⟩ := tq_lj_s hg
                replace hP : va_P (dC, dI) tq_cl (wo cI cL cZ ad σ38) H := by rw [eσ38, ← ws_i10]; exact hP
                replace hD : va_D A (wo cI cL cZ ad σ38) := by rw [eσ38, ← ws_i10]; exact hD
                obtain ⟨v39, ev39, hg⟩ := tq_lj_s hg
                refine lv_iinc (v := v39) (lv' := [(2, .int v39), (3, .int r13), (0, .ref (ad 3)), (1, .int x1)]) hx hb d_Go_sortSomes_101 hl (k := 3) rfl (by rw [ev39]; rfl) (by decide) rfl (fun ls hl => ?_)
                refine lv_goto (tgt := 23) hx hb d_Go_sortSomes_104 (by decide) ?_
                exact ih.2.2 hP hD hS (lv_sub hl [2, 3, 0] rfl) (tq_gi hg hn)
              · replace hg := tq_if_f c36 hg
                refine lv_iconst (v := 1) hx hb d_Go_sortSomes_92 (by decide) ?_
                refine lv_iload_n hx hb d_Go_sortSomes_93 rfl (lv_at hl 3 rfl) ?_
                refine lv_ishl hx hb d_Go_sortSomes_94 ?_
                refine lv_goto (tgt := 99) hx hb d_Go_sortSomes_95 (by decide) ?_
                refine lv_ior hx hb d_Go_sortSomes_99 ?_
                obtain ⟨g40, hg⟩ := tq_gd_s hg
                refine va_iast hx hb hK hP hD hS 18 0 rfl rfl g40 d_Go_sortSomes_100 (fun H locs hP hD hS => ?_)
                obtain ⟨σ41, eσ41, hg⟩ := tq_lj_s hg
                replace hP : va_P (dC, dI) tq_cl (wo cI cL cZ ad σ41) H := by rw [eσ41, ← ws_i10]; exact hP
                replace hD : va_D A (wo cI cL cZ ad σ41) := by rw [eσ41, ← ws_i10]; exact hD
                obtain ⟨v42, ev42, hg⟩ := tq_lj_s hg
                refine lv_iinc (v := v42) (lv' := [(2, .int v42), (3, .int r13), (0, .ref (ad 3)), (1, .int x1)]) hx hb d_Go_sortSomes_101 hl (k := 3) rfl (by rw [ev42]; rfl) (by decide) rfl (fun ls hl => ?_)
                refine lv_goto (tgt := 23) hx hb d_Go_sortSomes_104 (by decide) ?_
                exact ih.2.2 hP hD hS (lv_sub hl [2, 3, 0] rfl) (tq_gi hg hn)
          · replace hg := tq_if_n c11 hg
            refine lv_goto (tgt := 101) hx hb d_Go_sortSomes_40 (by decide) ?_
            obtain ⟨v43, ev43, hg⟩ := tq_lj_s hg
            refine lv_iinc (v := v43) (lv' := [(2, .int v43), (0, .ref (ad 3)), (1, .int x1)]) hx hb d_Go_sortSomes_101 hl (k := 2) rfl (by rw [ev43]; rfl) (by decide) rfl (fun ls hl => ?_)
            refine lv_goto (tgt := 23) hx hb d_Go_sortSomes_104 (by decide) ?_
            exact ih.2.2 hP hD hS (lv_sub hl [1, 2, 0] rfl) (tq_gi hg hn)
  exact (key n0).1 hP hD hS hl h0
noncomputable def bk_Go_keptByAxioms_0 : List Int32 → List Int64 → tq_S → Option tq_C
  | [x3], [y1], σ => some (6, [x3, 0], [y1], σ)
  | _, _, _ => none
noncomputable def bk_Go_keptByAxioms_6 : List Int32 → List Int64 → tq_S → Option tq_C
  | [x3, x6], [y4], σ => if (σ.2.2 2) ≤ x6 then some (tq_rt, [], [y4], σ) else if 30 ≤ x6 then some (tq_rt, [], [y4], σ) else tq_gd x6 30 (tq_ob (tq_fL st_Co_word (0, [(ia σ 7 x6), x3], [], σ)) (fun r5 σ6 => tq_gd x6 30 (tq_ob (tq_fL st_Co_word (0, [(ia σ6 8 x6), x3], [], σ6)) (fun r9 σ10 => tq_lj (y4 &&& ((r5 ^^^ (-1)) ||| r9)) (fun v11 => tq_lj (x6 + 1) (fun v12 => some (6, [x3, v12], [v11], σ10)))))))
  | _, _, _ => none
noncomputable def st_Go_keptByAxioms (c : tq_C) : Option tq_C := if c.1 = 0 then bk_Go_keptByAxioms_0 c.2.1 c.2.2.1 c.2.2.2 else if c.1 = 6 then bk_Go_keptByAxioms_6 c.2.1 c.2.2.1 c.2.2.2 else none
set_option maxHeartbeats 40000000 in
set_option maxRecDepth 100000 in
theorem c_Go_keptByAxioms (l : Launch) (dC : Nat → ClassId) (dI : Nat → Nat → Nat) (cI cL cZ : ClassId) (ad : Nat → Nat) (tt : Nat) (sz : Nat) (σ : tq_S) (a3 : Int32) (b1 : Int64) (r : Int64) (σ' : tq_S) (hf : tq_fL st_Go_keptByAxioms (0, [a3], [b1], σ) = some (r, σ')) : Met l y_Go_keptByAxioms w_Go_keptByAxioms ({ frames := 1, cells := 0, slots := 0, locals := 23 } : Room) (va_Pc [.ref (ad 3), .long b1, .int a3] (tq_B dC dI cI cL cZ tt (wo cI cL cZ ad σ) sz)) (va_Ql (fun (r' : Int64) (u : tq_S) => r' = r ∧ u = σ') (tq_E dC dI cI cL cZ (wo cI cL cZ ad) (va_A (wo cI cL cZ ad σ) sz)) (va_A (wo cI cL cZ ad σ) sz)) 0 0 (va_A (wo cI cL cZ ad σ) sz) := by
  obtain ⟨n0, h0⟩ := tq_fL_to hf
  refine Met.ofW (cc := prog_3_method_16_code) (maxL := 7) (ret := (some .long)) (by decide) rfl ?_
  intro p e s m args below meth c s₁ B hml hv
  obtain ⟨rfl, hsz, hP, hK, hD0, hZ, hN⟩ := hv
  have hx := B.exec
  have hb := B.bytes
  have hr := B.returns
  have hts : ∀ w ∈ tq_T, w.before _ s = true := fun w h => atoms_spec (ws := w_Go_keptByAxioms) B.pre w (List.mem_cons_of_mem _ h)
  have hown : s.vm.findClass "TableauNodes$GoodTypes" = some m.cls := findClass_of_methodNamed B.named
  have hlocks := B.notSynchronized
  subst hsz
  have hD := hD0.self (sz := s.heap.size)
  have hS : va_S (va_A (wo cI cL cZ ad σ) s.heap.size) s.heap s.heap [] := va_S.rf
  have hA : ∀ q : Nat, s.heap.size ≤ q → va_A (wo cI cL cZ ad σ) s.heap.size q := fun q h => Or.inr h
  generalize va_A (wo cI cL cZ ad σ) s.heap.size = A at hD hS hA hZ ⊢
  have hl := lv_entry ([.ref (ad 3), .long b1, .int a3]) (n := 7) (Nat.le_of_ble_eq_true rfl)
  rw [lg_entry_eq]
  generalize (lg_sl ([.ref (ad 3), .long b1, .int a3]) ++ List.replicate (7 - (lg_sl ([.ref (ad 3), .long b1, .int a3])).length) Slot.unset).toArray = ls at hl ⊢
  have hl : lv_has ls 7 [(0, .ref (ad 3)), (1, .long b1), (3, .int a3)] := hl
  have key : ∀ n : Nat, (∀ {x3 : Int32} {y1 : Int64} {σ : tq_S} {H : Heap} {locs : List Loc} {ls : Array Slot}, va_P (dC, dI) tq_cl (wo cI cL cZ ad σ) H → va_D A (wo cI cL cZ ad σ) → va_S A s.heap H locs → lv_has ls 7 [(0, .ref (ad 3)), (1, .long y1), (3, .int x3)] → tq_go st_Go_keptByAxioms n (0, [x3], [y1], σ) = some (tq_rt, [], [r], σ') → W p l e (headSpec w_Go_keptByAxioms ({ frames := 1, cells := 0, slots := 0, locals := 23 } : Room)).room s m ([.ref (ad 3), .long b1, .int a3] : List Value).toArray below meth c H locs 0 0 (MQ below (va_Ql (fun (r' : Int64) (u : tq_S) => r' = r ∧ u = σ') (tq_E dC dI cI cL cZ (wo cI cL cZ ad) A) A) ([.ref (ad 3), .long b1, .int a3] : List Value).toArray s 0 0 A) (F0 m 0 ls [])) ∧ (∀ {x3 x6 : Int32} {y4 : Int64} {σ : tq_S} {H : Heap} {locs : List Loc} {ls : Array Slot}, va_P (dC, dI) tq_cl (wo cI cL cZ ad σ) H → va_D A (wo cI cL cZ ad σ) → va_S A s.heap H locs → lv_has ls 7 [(0, .ref (ad 3)), (3, .int x3), (4, .long y4), (6, .int x6)] → tq_go st_Go_keptByAxioms n (6, [x3, x6], [y4], σ) = some (tq_rt, [], [r], σ') → W p l e (headSpec w_Go_keptByAxioms ({ frames := 1, cells := 0, slots := 0, locals := 23 } : Room)).room s m ([.ref (ad 3), .long b1, .int a3] : List Value).toArray below meth c H locs 0 0 (MQ below (va_Ql (fun (r' : Int64) (u : tq_S) => r' = r ∧ u = σ') (tq_E dC dI cI cL cZ (wo cI cL cZ ad) A) A) ([.ref (ad 3), .long b1, .int a3] : List Value).toArray s 0 0 A) (F0 m 6 ls [])) := by
    intro n
    induction n with
    | zero => exact ⟨(fun _ _ _ _ h => by cases h), (fun _ _ _ _ h => by cases h)⟩
    | succ n ih =>
      refine ⟨?_, ?_⟩
      · intro x3 y1 σ H locs ls hP hD hS hl h9
        obtain ⟨q9, hg, hn⟩ := tq_go_s h9 (show ¬ (0 : Nat) = tq_rt by decide)
        replace hg : bk_Go_keptByAxioms_0 [x3] [y1] σ = some q9 := hg
        unfold bk_Go_keptByAxioms_0 at hg
        refine lv_lload_n hx hb d_Go_keptByAxioms_0 rfl (lv_at hl 1 rfl) ?_
        refine lv_lstore (lv' := [(4, .long y1), (0, .ref (ad 3)), (1, .long y1), (3, .int x3)]) hx hb d_Go_keptByAxioms_1 hl (by decide) rfl (fun ls hl => ?_)
        refine lv_iconst (v := 0) hx hb d_Go_keptByAxioms_3 (by decide) ?_
        refine lv_istore (lv' := [(6, .int 0), (4, .long y1), (0, .ref (ad 3)), (1, .long y1), (3, .int x3)]) hx hb d_Go_keptByAxioms_4 hl (by decide) rfl (fun ls hl => ?_)
        exact ih.2 hP hD hS (lv_sub hl [2, 4, 1, 0] rfl) (tq_gi hg hn)
      · intro x3 x6 y4 σ H locs ls hP hD hS hl h9
        obtain ⟨q9, hg, hn⟩ := tq_go_s h9 (show ¬ (6 : Nat) = tq_rt by decide)
        replace hg : bk_Go_keptByAxioms_6 [x3, x6] [y4] σ = some q9 := hg
        unfold bk_Go_keptByAxioms_6 at hg
        refine lv_iload hx hb d_Go_keptByAxioms_6 (lv_at hl 3 rfl) ?_
        refine lv_aload_n hx hb d_Go_keptByAxioms_8 rfl (lv_at hl 0 rfl) ?_
        refine va_get (D := (dC, dI)) (ci := 3) (v := .int (σ.2.2 2)) (C := "TableauNodes$GoodTypes") (T := F_Go) (N := 15) hx hb hts in_Go hown hK hP 3 rfl rfl 4 (by decide) (hts _ tw_121) (fun _ h9 => h9) rfl d_Go_keptByAxioms_9 ?_
        refine lv_icmp_ge (tgt := 68) hx hb d_Go_keptByAxioms_12 (by decide) (fun c1 => ?_) (fun c1 => ?_)
        · replace hg := tq_if_t c1 hg
          refine lv_lload hx hb d_Go_keptByAxioms_68 (lv_at hl 2 rfl) ?_
          exact W.lret (v := y4) hx hb hr (fun t ht hW => ⟨⟨y4, σ, rfl, tq_grL hg hn, by rw [ht]; exact hP, va_K.moved hW.alike hK, hD⟩, hS.F ht⟩) hS.2.2 d_Go_keptByAxioms_70
        · replace hg := tq_if_f c1 hg
          refine lv_iload hx hb d_Go_keptByAxioms_15 (lv_at hl 3 rfl) ?_
          refine lv_bipush (v := 30) hx hb d_Go_keptByAxioms_17 (by decide) ?_
          refine lv_icmp_ge (tgt := 68) hx hb d_Go_keptByAxioms_19 (by decide) (fun c2 => ?_) (fun c2 => ?_)
          · replace hg := tq_if_t c2 hg
            refine lv_lload hx hb d_Go_keptByAxioms_68 (lv_at hl 2 rfl) ?_
            exact W.lret (v := y4) hx hb hr (fun t ht hW => ⟨⟨y4, σ, rfl, tq_grL hg hn, by rw [ht]; exact hP, va_K.moved hW.alike hK, hD⟩, hS.F ht⟩) hS.2.2 d_Go_keptByAxioms_70
          · replace hg := tq_if_f c2 hg
            refine lv_lload hx hb d_Go_keptByAxioms_22 (lv_at hl 2 rfl) ?_
            refine lv_aload_n hx hb d_Go_keptByAxioms_24 rfl (lv_at hl 0 rfl) ?_
            refine va_get (D := (dC, dI)) (ci := 3) (v := .ref (ad 1)) (C := "TableauNodes$GoodTypes") (T := F_Go) (N := 15) hx hb hts in_Go hown hK hP 3 rfl rfl 0 (by decide) (hts _ tw_117) (fun _ h9 => h9) rfl d_Go_keptByAxioms_25 ?_
            refine lv_aload_n hx hb d_Go_keptByAxioms_28 rfl (lv_at hl 0 rfl) ?_
            refine va_get (D := (dC, dI)) (ci := 3) (v := .ref (ad 15)) (C := "TableauNodes$GoodTypes") (T := F_Go) (N := 15) hx hb hts in_Go hown hK hP 3 rfl rfl 2 (by decide) (hts _ tw_119) (fun _ h9 => h9) rfl d_Go_keptByAxioms_29 ?_
            refine lv_iload hx hb d_Go_keptByAxioms_32 (lv_at hl 3 rfl) ?_
            obtain ⟨g3, hg⟩ := tq_gd_s hg
            refine va_iald hx hb hK hP 15 0 rfl rfl g3 d_Go_keptByAxioms_34 ?_
            refine lv_iload_n hx hb d_Go_keptByAxioms_35 rfl (lv_at hl 1 rfl) ?_
            obtain ⟨r5, σ6, f4, hg⟩ := tq_ob_s hg
            refine tq_aL (va_runV (As := [.int (ia σ 7 x6), .int x3]) (rest := [.long y4]) ⟨hx, hb, hml, hown, hts⟩ (c_Co_word l dC dI cI cL cZ ad tt H.size σ (ia σ 7 x6) x3  r5 σ6 f4) (cwV 2 hts (tq_gV tw_354 tw_49 tw_50 tw_2 tw_51) rfl rfl rfl (by decide +kernel) ⟨Nat.le_of_ble_eq_true rfl, Nat.le_of_ble_eq_true rfl⟩) ⟨tq_bl, va_recv hK hP (ci := 1) (q0 := 1) rfl rfl, (tq_pr hP hK hD hS hA hZ hN)⟩ rfl rfl hl.1 rfl (lv_room (Nat.le_of_ble_eq_true rfl)) d_Go_keptByAxioms_36 ⟨Nat.zero_le _, Nat.zero_le _⟩) hD hS hA (fun H locs hP hD hS => ?_)
            refine lv_ldc2 (v := (-1)) hx hb hown (hts _ tw_355) d_Go_keptByAxioms_39 ?_
            refine lv_lxor hx hb d_Go_keptByAxioms_42 ?_
            refine lv_aload_n hx hb d_Go_keptByAxioms_43 rfl (lv_at hl 0 rfl) ?_
            refine va_get (D := (dC, dI)) (ci := 3) (v := .ref (ad 1)) (C := "TableauNodes$GoodTypes") (T := F_Go) (N := 15) hx hb hts in_Go hown hK hP 3 rfl rfl 0 (by decide) (hts _ tw_117) (fun _ h9 => h9) rfl d_Go_keptByAxioms_44 ?_
            refine lv_aload_n hx hb d_Go_keptByAxioms_47 rfl (lv_at hl 0 rfl) ?_
            refine va_get (D := (dC, dI)) (ci := 3) (v := .ref (ad 16)) (C := "TableauNodes$GoodTypes") (T := F_Go) (N := 15) hx hb hts in_Go hown hK hP 3 rfl rfl 3 (by decide) (hts _ tw_120) (fun _ h9 => h9) rfl d_Go_keptByAxioms_48 ?_
            refine lv_iload hx hb d_Go_keptByAxioms_51 (lv_at hl 3 rfl) ?_
            obtain ⟨g7, hg⟩ := tq_gd_s hg
            refine va_iald hx hb hK hP 16 0 rfl rfl g7 d_Go_keptByAxioms_53 ?_
            refine lv_iload_n hx hb d_Go_keptByAxioms_54 rfl (lv_at hl 1 rfl) ?_
            obtain ⟨r9, σ10, f8, hg⟩ := tq_ob_s hg
            refine tq_aL (va_runV (As := [.int (ia σ6 8 x6), .int x3]) (rest := [.long (r5 ^^^ (-1)), .long y4]) ⟨hx, hb, hml, hown, hts⟩ (c_Co_word l dC dI cI cL cZ ad tt H.size σ6 (ia σ6 8 x6) x3  r9 σ10 f8) (cwV 2 hts (tq_gV tw_354 tw_49 tw_50 tw_2 tw_51) rfl rfl rfl (by decide +kernel) ⟨Nat.le_of_ble_eq_true rfl, Nat.le_of_ble_eq_true rfl⟩) ⟨tq_bl, va_recv hK hP (ci := 1) (q0 := 1) rfl rfl, (tq_pr hP hK hD hS hA hZ hN)⟩ rfl rfl hl.1 rfl (lv_room (Nat.le_of_ble_eq_true rfl)) d_Go_keptByAxioms_55 ⟨Nat.zero_le _, Nat.zero_le _⟩) hD hS hA (fun H locs hP hD hS => ?_)
            refine lv_lor hx hb d_Go_keptByAxioms_58 ?_
            refine lv_land hx hb d_Go_keptByAxioms_59 ?_
            obtain ⟨v11, ev11, hg⟩ := tq_lj_s hg
            refine tq_nml ev11 ?_
            refine lv_lstore (lv' := [(4, .long v11), (0, .ref (ad 3)), (3, .int x3), (6, .int x6)]) hx hb d_Go_keptByAxioms_60 hl (by decide) rfl (fun ls hl => ?_)
            obtain ⟨v12, ev12, hg⟩ := tq_lj_s hg
            refine lv_iinc (v := v12) (lv' := [(6, .int v12), (4, .long v11), (0, .ref (ad 3)), (3, .int x3)]) hx hb d_Go_keptByAxioms_62 hl (k := 3) rfl (by rw [ev12]; rfl) (by decide) rfl (fun ls hl => ?_)
            refine lv_goto (tgt := 6) hx hb d_Go_keptByAxioms_65 (by decide) ?_
            exact ih.2 hP hD hS (lv_sub hl [2, 3, 1, 0] rfl) (tq_gi hg hn)
  exact (key n0).1 hP hD hS hl h0
noncomputable def bk_Go_isThere_0 : List Int32 → List Int64 → tq_S → Option tq_C
  | [x1], [], σ => tq_gd (x1 / 64) 16 (tq_ob (tq_fI st_Tn_hasBit (0, [(jrem x1 64)], [(la σ 2 (x1 / 64))], σ)) (fun r5 σ6 => tq_gb r5 (some (tq_rt, [r5], [], σ6))))
  | _, _, _ => none
noncomputable def st_Go_isThere (c : tq_C) : Option tq_C := if c.1 = 0 then bk_Go_isThere_0 c.2.1 c.2.2.1 c.2.2.2 else none
set_option maxHeartbeats 40000000 in
set_option maxRecDepth 100000 in
theorem c_Go_isThere (l : Launch) (dC : Nat → ClassId) (dI : Nat → Nat → Nat) (cI cL cZ : ClassId) (ad : Nat → Nat) (tt : Nat) (sz : Nat) (σ : tq_S) (a1 : Int32) (r : Int32) (σ' : tq_S) (hf : tq_fI st_Go_isThere (0, [a1], [], σ) = some (r, σ')) : Met l y_Go_isThere w_Go_isThere ({ frames := 1, cells := 0, slots := 0, locals := 22 } : Room) (va_Pc [.ref (ad 3), .int a1] (tq_B dC dI cI cL cZ tt (wo cI cL cZ ad σ) sz)) (va_Qi (fun (r' : Int32) (u : tq_S) => r' = r ∧ u = σ') (tq_E dC dI cI cL cZ (wo cI cL cZ ad) (va_A (wo cI cL cZ ad σ) sz)) (va_A (wo cI cL cZ ad σ) sz)) 0 0 (va_A (wo cI cL cZ ad σ) sz) := by
  obtain ⟨n0, h0⟩ := tq_fI_to hf
  refine Met.ofW (cc := prog_3_method_17_code) (maxL := 2) (ret := (some .boolean)) (by decide) rfl ?_
  intro p e s m args below meth c s₁ B hml hv
  obtain ⟨rfl, hsz, hP, hK, hD0, hZ, hN⟩ := hv
  have hx := B.exec
  have hb := B.bytes
  have hr := B.returns
  have hts : ∀ w ∈ tq_T, w.before _ s = true := fun w h => atoms_spec (ws := w_Go_isThere) B.pre w (List.mem_cons_of_mem _ h)
  have hown : s.vm.findClass "TableauNodes$GoodTypes" = some m.cls := findClass_of_methodNamed B.named
  have hlocks := B.notSynchronized
  subst hsz
  have hD := hD0.self (sz := s.heap.size)
  have hS : va_S (va_A (wo cI cL cZ ad σ) s.heap.size) s.heap s.heap [] := va_S.rf
  have hA : ∀ q : Nat, s.heap.size ≤ q → va_A (wo cI cL cZ ad σ) s.heap.size q := fun q h => Or.inr h
  generalize va_A (wo cI cL cZ ad σ) s.heap.size = A at hD hS hA hZ ⊢
  have hl := lv_entry ([.ref (ad 3), .int a1]) (n := 2) (Nat.le_of_ble_eq_true rfl)
  rw [lg_entry_eq]
  generalize (lg_sl ([.ref (ad 3), .int a1]) ++ List.replicate (2 - (lg_sl ([.ref (ad 3), .int a1])).length) Slot.unset).toArray = ls at hl ⊢
  have hl : lv_has ls 2 [(0, .ref (ad 3)), (1, .int a1)] := hl
  have key : ∀ n : Nat, (∀ {x1 : Int32} {σ : tq_S} {H : Heap} {locs : List Loc} {ls : Array Slot}, va_P (dC, dI) tq_cl (wo cI cL cZ ad σ) H → va_D A (wo cI cL cZ ad σ) → va_S A s.heap H locs → lv_has ls 2 [(0, .ref (ad 3)), (1, .int x1)] → tq_go st_Go_isThere n (0, [x1], [], σ) = some (tq_rt, [r], [], σ') → W p l e (headSpec w_Go_isThere ({ frames := 1, cells := 0, slots := 0, locals := 22 } : Room)).room s m ([.ref (ad 3), .int a1] : List Value).toArray below meth c H locs 0 0 (MQ below (va_Qi (fun (r' : Int32) (u : tq_S) => r' = r ∧ u = σ') (tq_E dC dI cI cL cZ (wo cI cL cZ ad) A) A) ([.ref (ad 3), .int a1] : List Value).toArray s 0 0 A) (F0 m 0 ls [])) := by
    intro n
    induction n with
    | zero => exact fun _ _ _ _ h => by cases h
    | succ n ih =>
      intro x1 σ H locs ls hP hD hS hl h9
      obtain ⟨q9, hg, hn⟩ := tq_go_s h9 (show ¬ (0 : Nat) = tq_rt by decide)
      replace hg : bk_Go_isThere_0 [x1] [] σ = some q9 := hg
      unfold bk_Go_isThere_0 at hg
      refine lv_aload_n hx hb d_Go_isThere_0 rfl (lv_at hl 0 rfl) ?_
      refine va_get (D := (dC, dI)) (ci := 3) (v := .ref (ad 19)) (C := "TableauNodes$GoodTypes") (T := F_Go) (N := 15) hx hb hts in_Go hown hK hP 3 rfl rfl 7 (by decide) (hts _ tw_124) (fun _ h9 => h9) rfl d_Go_isThere_1 ?_
      refine lv_iload_n hx hb d_Go_isThere_4 rfl (lv_at hl 1 rfl) ?_
      refine lv_bipush (v := 64) hx hb d_Go_isThere_5 (by decide) ?_
      refine lv_idiv hx hb d_Go_isThere_7 (by decide) ?_
      obtain ⟨g2, hg⟩ := tq_gd_s hg
      refine va_lald hx hb hK hP 19 1 rfl rfl g2 d_Go_isThere_8 ?_
      refine lv_iload_n hx hb d_Go_isThere_9 rfl (lv_at hl 1 rfl) ?_
      refine lv_bipush (v := 64) hx hb d_Go_isThere_10 (by decide) ?_
      refine lv_irem hx hb d_Go_isThere_12 (by decide) ?_
      obtain ⟨r5, σ6, f4, hg⟩ := tq_ob_s hg
      refine tq_aI (va_runSN (As := [.long (la σ 2 (x1 / 64)), .int (jrem x1 64)]) (rest := []) ⟨hx, hb, hml, hown, hts⟩ (c_Tn_hasBit l dC dI cI cL cZ ad tt H.size σ (jrem x1 64) (la σ 2 (x1 / 64)) r5 σ6 f4) ⟨va_cnB 2 hts (tq_gC tw_62) rfl rfl rfl (hN _ (List.mem_of_getElem? (i := 4) rfl)) (hts _ tw_1) (by decide +kernel) ⟨Nat.le_of_ble_eq_true rfl, Nat.le_of_ble_eq_true rfl⟩, hts _ tw_61, trivial⟩ ⟨tq_bl, (tq_pr hP hK hD hS hA hZ hN)⟩ rfl rfl hl.1 rfl (lv_room (Nat.le_of_ble_eq_true rfl)) d_Go_isThere_13 ⟨Nat.zero_le _, Nat.zero_le _⟩) hD hS hA (fun H locs hP hD hS => ?_)
      obtain ⟨b7, hg⟩ := tq_gb_s hg
      exact W.zret (v := r5) hx hb hr (tq_nb b7) (fun t ht hW => ⟨⟨r5, σ6, rfl, tq_grI hg hn, by rw [ht]; exact hP, va_K.moved hW.alike hK, hD⟩, hS.F ht⟩) hS.2.2 d_Go_isThere_16
  exact (key n0) hP hD hS hl h0
