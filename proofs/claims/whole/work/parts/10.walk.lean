theorem d_Tn_isBelow_0 : decode prog_1_method_21_code 0 = .ok (.iload_n 0, 1) := by decide +kernel
theorem d_Tn_isBelow_1 : decode prog_1_method_21_code 1 = .ok (.ifCond .lt 12, 3) := by decide +kernel
theorem d_Tn_isBelow_4 : decode prog_1_method_21_code 4 = .ok (.iload_n 0, 1) := by decide +kernel
theorem d_Tn_isBelow_5 : decode prog_1_method_21_code 5 = .ok (.iload_n 1, 1) := by decide +kernel
theorem d_Tn_isBelow_6 : decode prog_1_method_21_code 6 = .ok (.if_icmp .ge 7, 3) := by decide +kernel
theorem d_Tn_isBelow_9 : decode prog_1_method_21_code 9 = .ok (.iconst 1, 1) := by decide +kernel
theorem d_Tn_isBelow_10 : decode prog_1_method_21_code 10 = .ok (.goto 4, 3) := by decide +kernel
theorem d_Tn_isBelow_13 : decode prog_1_method_21_code 13 = .ok (.iconst 0, 1) := by decide +kernel
theorem d_Tn_isBelow_14 : decode prog_1_method_21_code 14 = .ok (.ireturn, 1) := by decide +kernel
theorem d_Tn_hasBit_0 : decode prog_1_method_22_code 0 = .ok (.lload_n 0, 1) := by decide +kernel
theorem d_Tn_hasBit_1 : decode prog_1_method_22_code 1 = .ok (.iload_n 2, 1) := by decide +kernel
theorem d_Tn_hasBit_2 : decode prog_1_method_22_code 2 = .ok (.lushr, 1) := by decide +kernel
theorem d_Tn_hasBit_3 : decode prog_1_method_22_code 3 = .ok (.lconst 1, 1) := by decide +kernel
theorem d_Tn_hasBit_4 : decode prog_1_method_22_code 4 = .ok (.land, 1) := by decide +kernel
theorem d_Tn_hasBit_5 : decode prog_1_method_22_code 5 = .ok (.lconst 0, 1) := by decide +kernel
theorem d_Tn_hasBit_6 : decode prog_1_method_22_code 6 = .ok (.lcmp, 1) := by decide +kernel
theorem d_Tn_hasBit_7 : decode prog_1_method_22_code 7 = .ok (.ifCond .eq 7, 3) := by decide +kernel
theorem d_Tn_hasBit_10 : decode prog_1_method_22_code 10 = .ok (.iconst 1, 1) := by decide +kernel
theorem d_Tn_hasBit_11 : decode prog_1_method_22_code 11 = .ok (.goto 4, 3) := by decide +kernel
theorem d_Tn_hasBit_14 : decode prog_1_method_22_code 14 = .ok (.iconst 0, 1) := by decide +kernel
theorem d_Tn_hasBit_15 : decode prog_1_method_22_code 15 = .ok (.ireturn, 1) := by decide +kernel
theorem d_Ji_bitCount_0 : decode prog_8_method_49_code 0 = .ok (.iload_n 0, 1) := by decide +kernel
theorem d_Ji_bitCount_1 : decode prog_8_method_49_code 1 = .ok (.iload_n 0, 1) := by decide +kernel
theorem d_Ji_bitCount_2 : decode prog_8_method_49_code 2 = .ok (.iconst 1, 1) := by decide +kernel
theorem d_Ji_bitCount_3 : decode prog_8_method_49_code 3 = .ok (.iushr, 1) := by decide +kernel
theorem d_Ji_bitCount_4 : decode prog_8_method_49_code 4 = .ok (.ldc_w 265, 3) := by decide +kernel
theorem d_Ji_bitCount_7 : decode prog_8_method_49_code 7 = .ok (.iand, 1) := by decide +kernel
theorem d_Ji_bitCount_8 : decode prog_8_method_49_code 8 = .ok (.isub, 1) := by decide +kernel
theorem d_Ji_bitCount_9 : decode prog_8_method_49_code 9 = .ok (.istore_n 0, 1) := by decide +kernel
theorem d_Ji_bitCount_10 : decode prog_8_method_49_code 10 = .ok (.iload_n 0, 1) := by decide +kernel
theorem d_Ji_bitCount_11 : decode prog_8_method_49_code 11 = .ok (.ldc_w 266, 3) := by decide +kernel
theorem d_Ji_bitCount_14 : decode prog_8_method_49_code 14 = .ok (.iand, 1) := by decide +kernel
theorem d_Ji_bitCount_15 : decode prog_8_method_49_code 15 = .ok (.iload_n 0, 1) := by decide +kernel
theorem d_Ji_bitCount_16 : decode prog_8_method_49_code 16 = .ok (.iconst 2, 1) := by decide +kernel
theorem d_Ji_bitCount_17 : decode prog_8_method_49_code 17 = .ok (.iushr, 1) := by decide +kernel
theorem d_Ji_bitCount_18 : decode prog_8_method_49_code 18 = .ok (.ldc_w 266, 3) := by decide +kernel
theorem d_Ji_bitCount_21 : decode prog_8_method_49_code 21 = .ok (.iand, 1) := by decide +kernel
theorem d_Ji_bitCount_22 : decode prog_8_method_49_code 22 = .ok (.iadd, 1) := by decide +kernel
theorem d_Ji_bitCount_23 : decode prog_8_method_49_code 23 = .ok (.istore_n 0, 1) := by decide +kernel
theorem d_Ji_bitCount_24 : decode prog_8_method_49_code 24 = .ok (.iload_n 0, 1) := by decide +kernel
theorem d_Ji_bitCount_25 : decode prog_8_method_49_code 25 = .ok (.iload_n 0, 1) := by decide +kernel
theorem d_Ji_bitCount_26 : decode prog_8_method_49_code 26 = .ok (.iconst 4, 1) := by decide +kernel
theorem d_Ji_bitCount_27 : decode prog_8_method_49_code 27 = .ok (.iushr, 1) := by decide +kernel
theorem d_Ji_bitCount_28 : decode prog_8_method_49_code 28 = .ok (.iadd, 1) := by decide +kernel
theorem d_Ji_bitCount_29 : decode prog_8_method_49_code 29 = .ok (.ldc_w 267, 3) := by decide +kernel
theorem d_Ji_bitCount_32 : decode prog_8_method_49_code 32 = .ok (.iand, 1) := by decide +kernel
theorem d_Ji_bitCount_33 : decode prog_8_method_49_code 33 = .ok (.istore_n 0, 1) := by decide +kernel
theorem d_Ji_bitCount_34 : decode prog_8_method_49_code 34 = .ok (.iload_n 0, 1) := by decide +kernel
theorem d_Ji_bitCount_35 : decode prog_8_method_49_code 35 = .ok (.iload_n 0, 1) := by decide +kernel
theorem d_Ji_bitCount_36 : decode prog_8_method_49_code 36 = .ok (.bipush 8, 2) := by decide +kernel
theorem d_Ji_bitCount_38 : decode prog_8_method_49_code 38 = .ok (.iushr, 1) := by decide +kernel
theorem d_Ji_bitCount_39 : decode prog_8_method_49_code 39 = .ok (.iadd, 1) := by decide +kernel
theorem d_Ji_bitCount_40 : decode prog_8_method_49_code 40 = .ok (.istore_n 0, 1) := by decide +kernel
theorem d_Ji_bitCount_41 : decode prog_8_method_49_code 41 = .ok (.iload_n 0, 1) := by decide +kernel
theorem d_Ji_bitCount_42 : decode prog_8_method_49_code 42 = .ok (.iload_n 0, 1) := by decide +kernel
theorem d_Ji_bitCount_43 : decode prog_8_method_49_code 43 = .ok (.bipush 16, 2) := by decide +kernel
theorem d_Ji_bitCount_45 : decode prog_8_method_49_code 45 = .ok (.iushr, 1) := by decide +kernel
theorem d_Ji_bitCount_46 : decode prog_8_method_49_code 46 = .ok (.iadd, 1) := by decide +kernel
theorem d_Ji_bitCount_47 : decode prog_8_method_49_code 47 = .ok (.istore_n 0, 1) := by decide +kernel
theorem d_Ji_bitCount_48 : decode prog_8_method_49_code 48 = .ok (.iload_n 0, 1) := by decide +kernel
theorem d_Ji_bitCount_49 : decode prog_8_method_49_code 49 = .ok (.bipush 63, 2) := by decide +kernel
theorem d_Ji_bitCount_51 : decode prog_8_method_49_code 51 = .ok (.iand, 1) := by decide +kernel
theorem d_Ji_bitCount_52 : decode prog_8_method_49_code 52 = .ok (.ireturn, 1) := by decide +kernel
theorem d_Jl_bitCount_0 : decode prog_9_method_50_code 0 = .ok (.lload_n 0, 1) := by decide +kernel
theorem d_Jl_bitCount_1 : decode prog_9_method_50_code 1 = .ok (.lload_n 0, 1) := by decide +kernel
theorem d_Jl_bitCount_2 : decode prog_9_method_50_code 2 = .ok (.iconst 1, 1) := by decide +kernel
theorem d_Jl_bitCount_3 : decode prog_9_method_50_code 3 = .ok (.lushr, 1) := by decide +kernel
theorem d_Jl_bitCount_4 : decode prog_9_method_50_code 4 = .ok (.ldc2_w 314, 3) := by decide +kernel
theorem d_Jl_bitCount_7 : decode prog_9_method_50_code 7 = .ok (.land, 1) := by decide +kernel
theorem d_Jl_bitCount_8 : decode prog_9_method_50_code 8 = .ok (.lsub, 1) := by decide +kernel
theorem d_Jl_bitCount_9 : decode prog_9_method_50_code 9 = .ok (.lstore_n 0, 1) := by decide +kernel
theorem d_Jl_bitCount_10 : decode prog_9_method_50_code 10 = .ok (.lload_n 0, 1) := by decide +kernel
theorem d_Jl_bitCount_11 : decode prog_9_method_50_code 11 = .ok (.ldc2_w 316, 3) := by decide +kernel
theorem d_Jl_bitCount_14 : decode prog_9_method_50_code 14 = .ok (.land, 1) := by decide +kernel
theorem d_Jl_bitCount_15 : decode prog_9_method_50_code 15 = .ok (.lload_n 0, 1) := by decide +kernel
theorem d_Jl_bitCount_16 : decode prog_9_method_50_code 16 = .ok (.iconst 2, 1) := by decide +kernel
theorem d_Jl_bitCount_17 : decode prog_9_method_50_code 17 = .ok (.lushr, 1) := by decide +kernel
theorem d_Jl_bitCount_18 : decode prog_9_method_50_code 18 = .ok (.ldc2_w 316, 3) := by decide +kernel
theorem d_Jl_bitCount_21 : decode prog_9_method_50_code 21 = .ok (.land, 1) := by decide +kernel
theorem d_Jl_bitCount_22 : decode prog_9_method_50_code 22 = .ok (.ladd, 1) := by decide +kernel
theorem d_Jl_bitCount_23 : decode prog_9_method_50_code 23 = .ok (.lstore_n 0, 1) := by decide +kernel
theorem d_Jl_bitCount_24 : decode prog_9_method_50_code 24 = .ok (.lload_n 0, 1) := by decide +kernel
theorem d_Jl_bitCount_25 : decode prog_9_method_50_code 25 = .ok (.lload_n 0, 1) := by decide +kernel
theorem d_Jl_bitCount_26 : decode prog_9_method_50_code 26 = .ok (.iconst 4, 1) := by decide +kernel
theorem d_Jl_bitCount_27 : decode prog_9_method_50_code 27 = .ok (.lushr, 1) := by decide +kernel
theorem d_Jl_bitCount_28 : decode prog_9_method_50_code 28 = .ok (.ladd, 1) := by decide +kernel
theorem d_Jl_bitCount_29 : decode prog_9_method_50_code 29 = .ok (.ldc2_w 318, 3) := by decide +kernel
theorem d_Jl_bitCount_32 : decode prog_9_method_50_code 32 = .ok (.land, 1) := by decide +kernel
theorem d_Jl_bitCount_33 : decode prog_9_method_50_code 33 = .ok (.lstore_n 0, 1) := by decide +kernel
theorem d_Jl_bitCount_34 : decode prog_9_method_50_code 34 = .ok (.lload_n 0, 1) := by decide +kernel
theorem d_Jl_bitCount_35 : decode prog_9_method_50_code 35 = .ok (.lload_n 0, 1) := by decide +kernel
theorem d_Jl_bitCount_36 : decode prog_9_method_50_code 36 = .ok (.bipush 8, 2) := by decide +kernel
theorem d_Jl_bitCount_38 : decode prog_9_method_50_code 38 = .ok (.lushr, 1) := by decide +kernel
theorem d_Jl_bitCount_39 : decode prog_9_method_50_code 39 = .ok (.ladd, 1) := by decide +kernel
theorem d_Jl_bitCount_40 : decode prog_9_method_50_code 40 = .ok (.lstore_n 0, 1) := by decide +kernel
theorem d_Jl_bitCount_41 : decode prog_9_method_50_code 41 = .ok (.lload_n 0, 1) := by decide +kernel
theorem d_Jl_bitCount_42 : decode prog_9_method_50_code 42 = .ok (.lload_n 0, 1) := by decide +kernel
theorem d_Jl_bitCount_43 : decode prog_9_method_50_code 43 = .ok (.bipush 16, 2) := by decide +kernel
theorem d_Jl_bitCount_45 : decode prog_9_method_50_code 45 = .ok (.lushr, 1) := by decide +kernel
theorem d_Jl_bitCount_46 : decode prog_9_method_50_code 46 = .ok (.ladd, 1) := by decide +kernel
theorem d_Jl_bitCount_47 : decode prog_9_method_50_code 47 = .ok (.lstore_n 0, 1) := by decide +kernel
theorem d_Jl_bitCount_48 : decode prog_9_method_50_code 48 = .ok (.lload_n 0, 1) := by decide +kernel
theorem d_Jl_bitCount_49 : decode prog_9_method_50_code 49 = .ok (.lload_n 0, 1) := by decide +kernel
theorem d_Jl_bitCount_50 : decode prog_9_method_50_code 50 = .ok (.bipush 32, 2) := by decide +kernel
theorem d_Jl_bitCount_52 : decode prog_9_method_50_code 52 = .ok (.lushr, 1) := by decide +kernel
theorem d_Jl_bitCount_53 : decode prog_9_method_50_code 53 = .ok (.ladd, 1) := by decide +kernel
theorem d_Jl_bitCount_54 : decode prog_9_method_50_code 54 = .ok (.lstore_n 0, 1) := by decide +kernel
theorem d_Jl_bitCount_55 : decode prog_9_method_50_code 55 = .ok (.lload_n 0, 1) := by decide +kernel
theorem d_Jl_bitCount_56 : decode prog_9_method_50_code 56 = .ok (.l2i, 1) := by decide +kernel
theorem d_Jl_bitCount_57 : decode prog_9_method_50_code 57 = .ok (.bipush 127, 2) := by decide +kernel
theorem d_Jl_bitCount_59 : decode prog_9_method_50_code 59 = .ok (.iand, 1) := by decide +kernel
theorem d_Jl_bitCount_60 : decode prog_9_method_50_code 60 = .ok (.ireturn, 1) := by decide +kernel
theorem d_Tn_lowestBit_0 : decode prog_1_method_23_code 0 = .ok (.lload_n 0, 1) := by decide +kernel
theorem d_Tn_lowestBit_1 : decode prog_1_method_23_code 1 = .ok (.lload_n 0, 1) := by decide +kernel
theorem d_Tn_lowestBit_2 : decode prog_1_method_23_code 2 = .ok (.lneg, 1) := by decide +kernel
theorem d_Tn_lowestBit_3 : decode prog_1_method_23_code 3 = .ok (.land, 1) := by decide +kernel
theorem d_Tn_lowestBit_4 : decode prog_1_method_23_code 4 = .ok (.lconst 1, 1) := by decide +kernel
theorem d_Tn_lowestBit_5 : decode prog_1_method_23_code 5 = .ok (.lsub, 1) := by decide +kernel
theorem d_Tn_lowestBit_6 : decode prog_1_method_23_code 6 = .ok (.invokestatic 121, 3) := by decide +kernel
theorem d_Tn_lowestBit_9 : decode prog_1_method_23_code 9 = .ok (.ireturn, 1) := by decide +kernel
theorem d_Co_find_0 : decode prog_2_method_18_code 0 = .ok (.iconst 0, 1) := by decide +kernel
theorem d_Co_find_1 : decode prog_2_method_18_code 1 = .ok (.istore 4, 2) := by decide +kernel
theorem d_Co_find_3 : decode prog_2_method_18_code 3 = .ok (.iload 4, 2) := by decide +kernel
theorem d_Co_find_5 : decode prog_2_method_18_code 5 = .ok (.aload_n 0, 1) := by decide +kernel
theorem d_Co_find_6 : decode prog_2_method_18_code 6 = .ok (.getfield 38, 3) := by decide +kernel
theorem d_Co_find_9 : decode prog_2_method_18_code 9 = .ok (.if_icmp .ge 45, 3) := by decide +kernel
theorem d_Co_find_12 : decode prog_2_method_18_code 12 = .ok (.aload_n 0, 1) := by decide +kernel
theorem d_Co_find_13 : decode prog_2_method_18_code 13 = .ok (.getfield 9, 3) := by decide +kernel
theorem d_Co_find_16 : decode prog_2_method_18_code 16 = .ok (.iload 4, 2) := by decide +kernel
theorem d_Co_find_18 : decode prog_2_method_18_code 18 = .ok (.iaload, 1) := by decide +kernel
theorem d_Co_find_19 : decode prog_2_method_18_code 19 = .ok (.iload_n 1, 1) := by decide +kernel
theorem d_Co_find_20 : decode prog_2_method_18_code 20 = .ok (.if_icmp .ne 28, 3) := by decide +kernel
theorem d_Co_find_23 : decode prog_2_method_18_code 23 = .ok (.aload_n 0, 1) := by decide +kernel
theorem d_Co_find_24 : decode prog_2_method_18_code 24 = .ok (.getfield 15, 3) := by decide +kernel
theorem d_Co_find_27 : decode prog_2_method_18_code 27 = .ok (.iload 4, 2) := by decide +kernel
theorem d_Co_find_29 : decode prog_2_method_18_code 29 = .ok (.iaload, 1) := by decide +kernel
theorem d_Co_find_30 : decode prog_2_method_18_code 30 = .ok (.iload_n 2, 1) := by decide +kernel
theorem d_Co_find_31 : decode prog_2_method_18_code 31 = .ok (.if_icmp .ne 17, 3) := by decide +kernel
theorem d_Co_find_34 : decode prog_2_method_18_code 34 = .ok (.aload_n 0, 1) := by decide +kernel
theorem d_Co_find_35 : decode prog_2_method_18_code 35 = .ok (.getfield 18, 3) := by decide +kernel
theorem d_Co_find_38 : decode prog_2_method_18_code 38 = .ok (.iload 4, 2) := by decide +kernel
theorem d_Co_find_40 : decode prog_2_method_18_code 40 = .ok (.iaload, 1) := by decide +kernel
theorem d_Co_find_41 : decode prog_2_method_18_code 41 = .ok (.iload_n 3, 1) := by decide +kernel
theorem d_Co_find_42 : decode prog_2_method_18_code 42 = .ok (.if_icmp .ne 6, 3) := by decide +kernel
theorem d_Co_find_45 : decode prog_2_method_18_code 45 = .ok (.iload 4, 2) := by decide +kernel
theorem d_Co_find_47 : decode prog_2_method_18_code 47 = .ok (.ireturn, 1) := by decide +kernel
theorem d_Co_find_48 : decode prog_2_method_18_code 48 = .ok (.iinc 4 1, 3) := by decide +kernel
theorem d_Co_find_51 : decode prog_2_method_18_code 51 = .ok (.goto (-48), 3) := by decide +kernel
theorem d_Co_find_54 : decode prog_2_method_18_code 54 = .ok (.iconst (-1), 1) := by decide +kernel
theorem d_Co_find_55 : decode prog_2_method_18_code 55 = .ok (.ireturn, 1) := by decide +kernel
theorem d_Co_atomWord_0 : decode prog_2_method_13_code 0 = .ok (.iload_n 1, 1) := by decide +kernel
theorem d_Co_atomWord_1 : decode prog_2_method_13_code 1 = .ok (.ifCond .lt 15, 3) := by decide +kernel
theorem d_Co_atomWord_4 : decode prog_2_method_13_code 4 = .ok (.iload_n 1, 1) := by decide +kernel
theorem d_Co_atomWord_5 : decode prog_2_method_13_code 5 = .ok (.bipush 6, 2) := by decide +kernel
theorem d_Co_atomWord_7 : decode prog_2_method_13_code 7 = .ok (.if_icmp .ge 9, 3) := by decide +kernel
theorem d_Co_atomWord_10 : decode prog_2_method_13_code 10 = .ok (.getstatic 69, 3) := by decide +kernel
theorem d_Co_atomWord_13 : decode prog_2_method_13_code 13 = .ok (.iload_n 1, 1) := by decide +kernel
theorem d_Co_atomWord_14 : decode prog_2_method_13_code 14 = .ok (.laload, 1) := by decide +kernel
theorem d_Co_atomWord_15 : decode prog_2_method_13_code 15 = .ok (.lreturn, 1) := by decide +kernel
theorem d_Co_atomWord_16 : decode prog_2_method_13_code 16 = .ok (.iload_n 2, 1) := by decide +kernel
theorem d_Co_atomWord_17 : decode prog_2_method_13_code 17 = .ok (.iload_n 1, 1) := by decide +kernel
theorem d_Co_atomWord_18 : decode prog_2_method_13_code 18 = .ok (.bipush 6, 2) := by decide +kernel
theorem d_Co_atomWord_20 : decode prog_2_method_13_code 20 = .ok (.isub, 1) := by decide +kernel
theorem d_Co_atomWord_21 : decode prog_2_method_13_code 21 = .ok (.ishr, 1) := by decide +kernel
theorem d_Co_atomWord_22 : decode prog_2_method_13_code 22 = .ok (.iconst 1, 1) := by decide +kernel
theorem d_Co_atomWord_23 : decode prog_2_method_13_code 23 = .ok (.iand, 1) := by decide +kernel
theorem d_Co_atomWord_24 : decode prog_2_method_13_code 24 = .ok (.ifCond .eq 9, 3) := by decide +kernel
theorem d_Co_atomWord_27 : decode prog_2_method_13_code 27 = .ok (.ldc2_w 49, 3) := by decide +kernel
theorem d_Co_atomWord_30 : decode prog_2_method_13_code 30 = .ok (.goto 4, 3) := by decide +kernel
theorem d_Co_atomWord_33 : decode prog_2_method_13_code 33 = .ok (.lconst 0, 1) := by decide +kernel
theorem d_Co_atomWord_34 : decode prog_2_method_13_code 34 = .ok (.lreturn, 1) := by decide +kernel
theorem d_Co_word_0 : decode prog_2_method_11_code 0 = .ok (.iload_n 1, 1) := by decide +kernel
theorem d_Co_word_1 : decode prog_2_method_11_code 1 = .ok (.ifCond .lt 25, 3) := by decide +kernel
theorem d_Co_word_4 : decode prog_2_method_11_code 4 = .ok (.iload_n 1, 1) := by decide +kernel
theorem d_Co_word_5 : decode prog_2_method_11_code 5 = .ok (.aload_n 0, 1) := by decide +kernel
theorem d_Co_word_6 : decode prog_2_method_11_code 6 = .ok (.getfield 38, 3) := by decide +kernel
theorem d_Co_word_9 : decode prog_2_method_11_code 9 = .ok (.if_icmp .ge 17, 3) := by decide +kernel
theorem d_Co_word_12 : decode prog_2_method_11_code 12 = .ok (.iload_n 2, 1) := by decide +kernel
theorem d_Co_word_13 : decode prog_2_method_11_code 13 = .ok (.ifCond .lt 13, 3) := by decide +kernel
theorem d_Co_word_16 : decode prog_2_method_11_code 16 = .ok (.iload_n 2, 1) := by decide +kernel
theorem d_Co_word_17 : decode prog_2_method_11_code 17 = .ok (.bipush 16, 2) := by decide +kernel
theorem d_Co_word_19 : decode prog_2_method_11_code 19 = .ok (.if_icmp .ge 7, 3) := by decide +kernel
theorem d_Co_word_22 : decode prog_2_method_11_code 22 = .ok (.iconst 1, 1) := by decide +kernel
theorem d_Co_word_23 : decode prog_2_method_11_code 23 = .ok (.goto 4, 3) := by decide +kernel
theorem d_Co_word_26 : decode prog_2_method_11_code 26 = .ok (.iconst 0, 1) := by decide +kernel
theorem d_Co_word_27 : decode prog_2_method_11_code 27 = .ok (.istore_n 3, 1) := by decide +kernel
theorem d_Co_word_28 : decode prog_2_method_11_code 28 = .ok (.iload_n 3, 1) := by decide +kernel
theorem d_Co_word_29 : decode prog_2_method_11_code 29 = .ok (.ifCond .eq 17, 3) := by decide +kernel
theorem d_Co_word_32 : decode prog_2_method_11_code 32 = .ok (.aload_n 0, 1) := by decide +kernel
theorem d_Co_word_33 : decode prog_2_method_11_code 33 = .ok (.getfield 21, 3) := by decide +kernel
theorem d_Co_word_36 : decode prog_2_method_11_code 36 = .ok (.iload_n 1, 1) := by decide +kernel
theorem d_Co_word_37 : decode prog_2_method_11_code 37 = .ok (.bipush 16, 2) := by decide +kernel
theorem d_Co_word_39 : decode prog_2_method_11_code 39 = .ok (.imul, 1) := by decide +kernel
theorem d_Co_word_40 : decode prog_2_method_11_code 40 = .ok (.iload_n 2, 1) := by decide +kernel
theorem d_Co_word_41 : decode prog_2_method_11_code 41 = .ok (.iadd, 1) := by decide +kernel
theorem d_Co_word_42 : decode prog_2_method_11_code 42 = .ok (.laload, 1) := by decide +kernel
theorem d_Co_word_43 : decode prog_2_method_11_code 43 = .ok (.goto 4, 3) := by decide +kernel
theorem d_Co_word_46 : decode prog_2_method_11_code 46 = .ok (.lconst 0, 1) := by decide +kernel
theorem d_Co_word_47 : decode prog_2_method_11_code 47 = .ok (.lreturn, 1) := by decide +kernel
theorem d_Co_newWord_0 : decode prog_2_method_20_code 0 = .ok (.iload_n 1, 1) := by decide +kernel
theorem d_Co_newWord_1 : decode prog_2_method_20_code 1 = .ok (.tableswitch 106 0 7 #[47, 106, 51, 62, 74, 90, 51, 62], 47) := by decide +kernel
theorem d_Co_newWord_48 : decode prog_2_method_20_code 48 = .ok (.ldc2_w 49, 3) := by decide +kernel
theorem d_Co_newWord_51 : decode prog_2_method_20_code 51 = .ok (.lreturn, 1) := by decide +kernel
theorem d_Co_newWord_52 : decode prog_2_method_20_code 52 = .ok (.aload_n 0, 1) := by decide +kernel
theorem d_Co_newWord_53 : decode prog_2_method_20_code 53 = .ok (.aload_n 0, 1) := by decide +kernel
theorem d_Co_newWord_54 : decode prog_2_method_20_code 54 = .ok (.getfield 42, 3) := by decide +kernel
theorem d_Co_newWord_57 : decode prog_2_method_20_code 57 = .ok (.iload 4, 2) := by decide +kernel
theorem d_Co_newWord_59 : decode prog_2_method_20_code 59 = .ok (.invokevirtual 87, 3) := by decide +kernel
theorem d_Co_newWord_62 : decode prog_2_method_20_code 62 = .ok (.lreturn, 1) := by decide +kernel
theorem d_Co_newWord_63 : decode prog_2_method_20_code 63 = .ok (.aload_n 0, 1) := by decide +kernel
theorem d_Co_newWord_64 : decode prog_2_method_20_code 64 = .ok (.iload_n 2, 1) := by decide +kernel
theorem d_Co_newWord_65 : decode prog_2_method_20_code 65 = .ok (.iload 4, 2) := by decide +kernel
theorem d_Co_newWord_67 : decode prog_2_method_20_code 67 = .ok (.invokevirtual 61, 3) := by decide +kernel
theorem d_Co_newWord_70 : decode prog_2_method_20_code 70 = .ok (.ldc2_w 49, 3) := by decide +kernel
theorem d_Co_newWord_73 : decode prog_2_method_20_code 73 = .ok (.lxor, 1) := by decide +kernel
theorem d_Co_newWord_74 : decode prog_2_method_20_code 74 = .ok (.lreturn, 1) := by decide +kernel
theorem d_Co_newWord_75 : decode prog_2_method_20_code 75 = .ok (.aload_n 0, 1) := by decide +kernel
theorem d_Co_newWord_76 : decode prog_2_method_20_code 76 = .ok (.iload_n 2, 1) := by decide +kernel
theorem d_Co_newWord_77 : decode prog_2_method_20_code 77 = .ok (.iload 4, 2) := by decide +kernel
theorem d_Co_newWord_79 : decode prog_2_method_20_code 79 = .ok (.invokevirtual 61, 3) := by decide +kernel
theorem d_Co_newWord_82 : decode prog_2_method_20_code 82 = .ok (.aload_n 0, 1) := by decide +kernel
theorem d_Co_newWord_83 : decode prog_2_method_20_code 83 = .ok (.iload_n 3, 1) := by decide +kernel
theorem d_Co_newWord_84 : decode prog_2_method_20_code 84 = .ok (.iload 4, 2) := by decide +kernel
theorem d_Co_newWord_86 : decode prog_2_method_20_code 86 = .ok (.invokevirtual 61, 3) := by decide +kernel
theorem d_Co_newWord_89 : decode prog_2_method_20_code 89 = .ok (.land, 1) := by decide +kernel
theorem d_Co_newWord_90 : decode prog_2_method_20_code 90 = .ok (.lreturn, 1) := by decide +kernel
theorem d_Co_newWord_91 : decode prog_2_method_20_code 91 = .ok (.aload_n 0, 1) := by decide +kernel
theorem d_Co_newWord_92 : decode prog_2_method_20_code 92 = .ok (.iload_n 2, 1) := by decide +kernel
theorem d_Co_newWord_93 : decode prog_2_method_20_code 93 = .ok (.iload 4, 2) := by decide +kernel
theorem d_Co_newWord_95 : decode prog_2_method_20_code 95 = .ok (.invokevirtual 61, 3) := by decide +kernel
theorem d_Co_newWord_98 : decode prog_2_method_20_code 98 = .ok (.aload_n 0, 1) := by decide +kernel
theorem d_Co_newWord_99 : decode prog_2_method_20_code 99 = .ok (.iload_n 3, 1) := by decide +kernel
theorem d_Co_newWord_100 : decode prog_2_method_20_code 100 = .ok (.iload 4, 2) := by decide +kernel
theorem d_Co_newWord_102 : decode prog_2_method_20_code 102 = .ok (.invokevirtual 61, 3) := by decide +kernel
theorem d_Co_newWord_105 : decode prog_2_method_20_code 105 = .ok (.lor, 1) := by decide +kernel
theorem d_Co_newWord_106 : decode prog_2_method_20_code 106 = .ok (.lreturn, 1) := by decide +kernel
theorem d_Co_newWord_107 : decode prog_2_method_20_code 107 = .ok (.lconst 0, 1) := by decide +kernel
theorem d_Co_newWord_108 : decode prog_2_method_20_code 108 = .ok (.lreturn, 1) := by decide +kernel
theorem d_Co_noteInner_0 : decode prog_2_method_22_code 0 = .ok (.iconst 0, 1) := by decide +kernel
theorem d_Co_noteInner_1 : decode prog_2_method_22_code 1 = .ok (.istore_n 3, 1) := by decide +kernel
theorem d_Co_noteInner_2 : decode prog_2_method_22_code 2 = .ok (.iload_n 3, 1) := by decide +kernel
theorem d_Co_noteInner_3 : decode prog_2_method_22_code 3 = .ok (.bipush 16, 2) := by decide +kernel
theorem d_Co_noteInner_5 : decode prog_2_method_22_code 5 = .ok (.if_icmp .ge 78, 3) := by decide +kernel
theorem d_Co_noteInner_8 : decode prog_2_method_22_code 8 = .ok (.aload_n 0, 1) := by decide +kernel
theorem d_Co_noteInner_9 : decode prog_2_method_22_code 9 = .ok (.iload_n 2, 1) := by decide +kernel
theorem d_Co_noteInner_10 : decode prog_2_method_22_code 10 = .ok (.iload_n 3, 1) := by decide +kernel
theorem d_Co_noteInner_11 : decode prog_2_method_22_code 11 = .ok (.invokevirtual 61, 3) := by decide +kernel
theorem d_Co_noteInner_14 : decode prog_2_method_22_code 14 = .ok (.lstore 4, 2) := by decide +kernel
theorem d_Co_noteInner_16 : decode prog_2_method_22_code 16 = .ok (.aload_n 0, 1) := by decide +kernel
theorem d_Co_noteInner_17 : decode prog_2_method_22_code 17 = .ok (.getfield 28, 3) := by decide +kernel
theorem d_Co_noteInner_20 : decode prog_2_method_22_code 20 = .ok (.iload_n 1, 1) := by decide +kernel
theorem d_Co_noteInner_21 : decode prog_2_method_22_code 21 = .ok (.bipush 16, 2) := by decide +kernel
theorem d_Co_noteInner_23 : decode prog_2_method_22_code 23 = .ok (.imul, 1) := by decide +kernel
theorem d_Co_noteInner_24 : decode prog_2_method_22_code 24 = .ok (.iload_n 3, 1) := by decide +kernel
theorem d_Co_noteInner_25 : decode prog_2_method_22_code 25 = .ok (.iadd, 1) := by decide +kernel
theorem d_Co_noteInner_26 : decode prog_2_method_22_code 26 = .ok (.lload 4, 2) := by decide +kernel
theorem d_Co_noteInner_28 : decode prog_2_method_22_code 28 = .ok (.lastore, 1) := by decide +kernel
theorem d_Co_noteInner_29 : decode prog_2_method_22_code 29 = .ok (.iconst 0, 1) := by decide +kernel
theorem d_Co_noteInner_30 : decode prog_2_method_22_code 30 = .ok (.istore 6, 2) := by decide +kernel
theorem d_Co_noteInner_32 : decode prog_2_method_22_code 32 = .ok (.iload 6, 2) := by decide +kernel
theorem d_Co_noteInner_34 : decode prog_2_method_22_code 34 = .ok (.bipush 64, 2) := by decide +kernel
theorem d_Co_noteInner_36 : decode prog_2_method_22_code 36 = .ok (.if_icmp .ge 41, 3) := by decide +kernel
theorem d_Co_noteInner_39 : decode prog_2_method_22_code 39 = .ok (.aload_n 0, 1) := by decide +kernel
theorem d_Co_noteInner_40 : decode prog_2_method_22_code 40 = .ok (.getfield 31, 3) := by decide +kernel
theorem d_Co_noteInner_43 : decode prog_2_method_22_code 43 = .ok (.iload_n 3, 1) := by decide +kernel
theorem d_Co_noteInner_44 : decode prog_2_method_22_code 44 = .ok (.bipush 64, 2) := by decide +kernel
theorem d_Co_noteInner_46 : decode prog_2_method_22_code 46 = .ok (.imul, 1) := by decide +kernel
theorem d_Co_noteInner_47 : decode prog_2_method_22_code 47 = .ok (.iload 6, 2) := by decide +kernel
theorem d_Co_noteInner_49 : decode prog_2_method_22_code 49 = .ok (.iadd, 1) := by decide +kernel
theorem d_Co_noteInner_50 : decode prog_2_method_22_code 50 = .ok (.dup2, 1) := by decide +kernel
theorem d_Co_noteInner_51 : decode prog_2_method_22_code 51 = .ok (.iaload, 1) := by decide +kernel
theorem d_Co_noteInner_52 : decode prog_2_method_22_code 52 = .ok (.lload 4, 2) := by decide +kernel
theorem d_Co_noteInner_54 : decode prog_2_method_22_code 54 = .ok (.iload 6, 2) := by decide +kernel
theorem d_Co_noteInner_56 : decode prog_2_method_22_code 56 = .ok (.invokestatic 65, 3) := by decide +kernel
theorem d_Co_noteInner_59 : decode prog_2_method_22_code 59 = .ok (.ifCond .eq 9, 3) := by decide +kernel
theorem d_Co_noteInner_62 : decode prog_2_method_22_code 62 = .ok (.iconst 1, 1) := by decide +kernel
theorem d_Co_noteInner_63 : decode prog_2_method_22_code 63 = .ok (.iload_n 1, 1) := by decide +kernel
theorem d_Co_noteInner_64 : decode prog_2_method_22_code 64 = .ok (.ishl, 1) := by decide +kernel
theorem d_Co_noteInner_65 : decode prog_2_method_22_code 65 = .ok (.goto 4, 3) := by decide +kernel
theorem d_Co_noteInner_68 : decode prog_2_method_22_code 68 = .ok (.iconst 0, 1) := by decide +kernel
theorem d_Co_noteInner_69 : decode prog_2_method_22_code 69 = .ok (.ior, 1) := by decide +kernel
theorem d_Co_noteInner_70 : decode prog_2_method_22_code 70 = .ok (.iastore, 1) := by decide +kernel
theorem d_Co_noteInner_71 : decode prog_2_method_22_code 71 = .ok (.iinc 6 1, 3) := by decide +kernel
theorem d_Co_noteInner_74 : decode prog_2_method_22_code 74 = .ok (.goto (-42), 3) := by decide +kernel
theorem d_Co_noteInner_77 : decode prog_2_method_22_code 77 = .ok (.iinc 3 1, 3) := by decide +kernel
theorem d_Co_noteInner_80 : decode prog_2_method_22_code 80 = .ok (.goto (-78), 3) := by decide +kernel
theorem d_Co_noteInner_83 : decode prog_2_method_22_code 83 = .ok (.return_, 1) := by decide +kernel
theorem d_Co_addAtom_0 : decode prog_2_method_21_code 0 = .ok (.aload_n 0, 1) := by decide +kernel
theorem d_Co_addAtom_1 : decode prog_2_method_21_code 1 = .ok (.getfield 42, 3) := by decide +kernel
theorem d_Co_addAtom_4 : decode prog_2_method_21_code 4 = .ok (.istore_n 2, 1) := by decide +kernel
theorem d_Co_addAtom_5 : decode prog_2_method_21_code 5 = .ok (.aload_n 0, 1) := by decide +kernel
theorem d_Co_addAtom_6 : decode prog_2_method_21_code 6 = .ok (.getfield 25, 3) := by decide +kernel
theorem d_Co_addAtom_9 : decode prog_2_method_21_code 9 = .ok (.iload_n 2, 1) := by decide +kernel
theorem d_Co_addAtom_10 : decode prog_2_method_21_code 10 = .ok (.iload_n 1, 1) := by decide +kernel
theorem d_Co_addAtom_11 : decode prog_2_method_21_code 11 = .ok (.iastore, 1) := by decide +kernel
theorem d_Co_addAtom_12 : decode prog_2_method_21_code 12 = .ok (.aload_n 0, 1) := by decide +kernel
theorem d_Co_addAtom_13 : decode prog_2_method_21_code 13 = .ok (.dup, 1) := by decide +kernel
theorem d_Co_addAtom_14 : decode prog_2_method_21_code 14 = .ok (.getfield 42, 3) := by decide +kernel
theorem d_Co_addAtom_17 : decode prog_2_method_21_code 17 = .ok (.iconst 1, 1) := by decide +kernel
theorem d_Co_addAtom_18 : decode prog_2_method_21_code 18 = .ok (.iadd, 1) := by decide +kernel
theorem d_Co_addAtom_19 : decode prog_2_method_21_code 19 = .ok (.putfield 42, 3) := by decide +kernel
theorem d_Co_addAtom_22 : decode prog_2_method_21_code 22 = .ok (.aload_n 0, 1) := by decide +kernel
theorem d_Co_addAtom_23 : decode prog_2_method_21_code 23 = .ok (.getfield 9, 3) := by decide +kernel
theorem d_Co_addAtom_26 : decode prog_2_method_21_code 26 = .ok (.iload_n 1, 1) := by decide +kernel
theorem d_Co_addAtom_27 : decode prog_2_method_21_code 27 = .ok (.iaload, 1) := by decide +kernel
theorem d_Co_addAtom_28 : decode prog_2_method_21_code 28 = .ok (.bipush 6, 2) := by decide +kernel
theorem d_Co_addAtom_30 : decode prog_2_method_21_code 30 = .ok (.if_icmp .ne 14, 3) := by decide +kernel
theorem d_Co_addAtom_33 : decode prog_2_method_21_code 33 = .ok (.aload_n 0, 1) := by decide +kernel
theorem d_Co_addAtom_34 : decode prog_2_method_21_code 34 = .ok (.iload_n 2, 1) := by decide +kernel
theorem d_Co_addAtom_35 : decode prog_2_method_21_code 35 = .ok (.aload_n 0, 1) := by decide +kernel
theorem d_Co_addAtom_36 : decode prog_2_method_21_code 36 = .ok (.getfield 18, 3) := by decide +kernel
theorem d_Co_addAtom_39 : decode prog_2_method_21_code 39 = .ok (.iload_n 1, 1) := by decide +kernel
theorem d_Co_addAtom_40 : decode prog_2_method_21_code 40 = .ok (.iaload, 1) := by decide +kernel
theorem d_Co_addAtom_41 : decode prog_2_method_21_code 41 = .ok (.invokevirtual 90, 3) := by decide +kernel
theorem d_Co_addAtom_44 : decode prog_2_method_21_code 44 = .ok (.return_, 1) := by decide +kernel
theorem d_Co_add_0 : decode prog_2_method_19_code 0 = .ok (.iload_n 1, 1) := by decide +kernel
theorem d_Co_add_1 : decode prog_2_method_19_code 1 = .ok (.iconst 2, 1) := by decide +kernel
theorem d_Co_add_2 : decode prog_2_method_19_code 2 = .ok (.if_icmp .eq 9, 3) := by decide +kernel
theorem d_Co_add_5 : decode prog_2_method_19_code 5 = .ok (.iload_n 1, 1) := by decide +kernel
theorem d_Co_add_6 : decode prog_2_method_19_code 6 = .ok (.bipush 6, 2) := by decide +kernel
theorem d_Co_add_8 : decode prog_2_method_19_code 8 = .ok (.if_icmp .ne 7, 3) := by decide +kernel
theorem d_Co_add_11 : decode prog_2_method_19_code 11 = .ok (.iconst 1, 1) := by decide +kernel
theorem d_Co_add_12 : decode prog_2_method_19_code 12 = .ok (.goto 4, 3) := by decide +kernel
theorem d_Co_add_15 : decode prog_2_method_19_code 15 = .ok (.iconst 0, 1) := by decide +kernel
theorem d_Co_add_16 : decode prog_2_method_19_code 16 = .ok (.istore 4, 2) := by decide +kernel
theorem d_Co_add_18 : decode prog_2_method_19_code 18 = .ok (.aload_n 0, 1) := by decide +kernel
theorem d_Co_add_19 : decode prog_2_method_19_code 19 = .ok (.getfield 38, 3) := by decide +kernel
theorem d_Co_add_22 : decode prog_2_method_19_code 22 = .ok (.bipush 80, 2) := by decide +kernel
theorem d_Co_add_24 : decode prog_2_method_19_code 24 = .ok (.if_icmp .ge 17, 3) := by decide +kernel
theorem d_Co_add_27 : decode prog_2_method_19_code 27 = .ok (.iload 4, 2) := by decide +kernel
theorem d_Co_add_29 : decode prog_2_method_19_code 29 = .ok (.ifCond .eq 15, 3) := by decide +kernel
theorem d_Co_add_32 : decode prog_2_method_19_code 32 = .ok (.aload_n 0, 1) := by decide +kernel
theorem d_Co_add_33 : decode prog_2_method_19_code 33 = .ok (.getfield 42, 3) := by decide +kernel
theorem d_Co_add_36 : decode prog_2_method_19_code 36 = .ok (.bipush 10, 2) := by decide +kernel
theorem d_Co_add_38 : decode prog_2_method_19_code 38 = .ok (.if_icmp .lt 6, 3) := by decide +kernel
theorem d_Co_add_41 : decode prog_2_method_19_code 41 = .ok (.bipush (-3), 2) := by decide +kernel
theorem d_Co_add_43 : decode prog_2_method_19_code 43 = .ok (.ireturn, 1) := by decide +kernel
theorem d_Co_add_44 : decode prog_2_method_19_code 44 = .ok (.aload_n 0, 1) := by decide +kernel
theorem d_Co_add_45 : decode prog_2_method_19_code 45 = .ok (.getfield 38, 3) := by decide +kernel
theorem d_Co_add_48 : decode prog_2_method_19_code 48 = .ok (.istore 5, 2) := by decide +kernel
theorem d_Co_add_50 : decode prog_2_method_19_code 50 = .ok (.aload_n 0, 1) := by decide +kernel
theorem d_Co_add_51 : decode prog_2_method_19_code 51 = .ok (.getfield 9, 3) := by decide +kernel
theorem d_Co_add_54 : decode prog_2_method_19_code 54 = .ok (.iload 5, 2) := by decide +kernel
theorem d_Co_add_56 : decode prog_2_method_19_code 56 = .ok (.iload_n 1, 1) := by decide +kernel
theorem d_Co_add_57 : decode prog_2_method_19_code 57 = .ok (.iastore, 1) := by decide +kernel
theorem d_Co_add_58 : decode prog_2_method_19_code 58 = .ok (.aload_n 0, 1) := by decide +kernel
theorem d_Co_add_59 : decode prog_2_method_19_code 59 = .ok (.getfield 15, 3) := by decide +kernel
theorem d_Co_add_62 : decode prog_2_method_19_code 62 = .ok (.iload 5, 2) := by decide +kernel
theorem d_Co_add_64 : decode prog_2_method_19_code 64 = .ok (.iload_n 2, 1) := by decide +kernel
theorem d_Co_add_65 : decode prog_2_method_19_code 65 = .ok (.iastore, 1) := by decide +kernel
theorem d_Co_add_66 : decode prog_2_method_19_code 66 = .ok (.aload_n 0, 1) := by decide +kernel
theorem d_Co_add_67 : decode prog_2_method_19_code 67 = .ok (.getfield 18, 3) := by decide +kernel
theorem d_Co_add_70 : decode prog_2_method_19_code 70 = .ok (.iload 5, 2) := by decide +kernel
theorem d_Co_add_72 : decode prog_2_method_19_code 72 = .ok (.iload_n 3, 1) := by decide +kernel
theorem d_Co_add_73 : decode prog_2_method_19_code 73 = .ok (.iastore, 1) := by decide +kernel
theorem d_Co_add_74 : decode prog_2_method_19_code 74 = .ok (.iload_n 1, 1) := by decide +kernel
theorem d_Co_add_75 : decode prog_2_method_19_code 75 = .ok (.bipush 7, 2) := by decide +kernel
theorem d_Co_add_77 : decode prog_2_method_19_code 77 = .ok (.if_icmp .ne 20, 3) := by decide +kernel
theorem d_Co_add_80 : decode prog_2_method_19_code 80 = .ok (.aload_n 0, 1) := by decide +kernel
theorem d_Co_add_81 : decode prog_2_method_19_code 81 = .ok (.bipush 6, 2) := by decide +kernel
theorem d_Co_add_83 : decode prog_2_method_19_code 83 = .ok (.iload_n 2, 1) := by decide +kernel
theorem d_Co_add_84 : decode prog_2_method_19_code 84 = .ok (.aload_n 0, 1) := by decide +kernel
theorem d_Co_add_85 : decode prog_2_method_19_code 85 = .ok (.iconst 3, 1) := by decide +kernel
theorem d_Co_add_86 : decode prog_2_method_19_code 86 = .ok (.iload_n 3, 1) := by decide +kernel
theorem d_Co_add_87 : decode prog_2_method_19_code 87 = .ok (.iconst 0, 1) := by decide +kernel
theorem d_Co_add_88 : decode prog_2_method_19_code 88 = .ok (.invokevirtual 55, 3) := by decide +kernel
theorem d_Co_add_91 : decode prog_2_method_19_code 91 = .ok (.invokevirtual 55, 3) := by decide +kernel
theorem d_Co_add_94 : decode prog_2_method_19_code 94 = .ok (.goto 4, 3) := by decide +kernel
theorem d_Co_add_97 : decode prog_2_method_19_code 97 = .ok (.iload_n 2, 1) := by decide +kernel
theorem d_Co_add_98 : decode prog_2_method_19_code 98 = .ok (.istore 6, 2) := by decide +kernel
theorem d_Co_add_100 : decode prog_2_method_19_code 100 = .ok (.iconst 0, 1) := by decide +kernel
theorem d_Co_add_101 : decode prog_2_method_19_code 101 = .ok (.istore 7, 2) := by decide +kernel
theorem d_Co_add_103 : decode prog_2_method_19_code 103 = .ok (.iload 7, 2) := by decide +kernel
theorem d_Co_add_105 : decode prog_2_method_19_code 105 = .ok (.bipush 16, 2) := by decide +kernel
theorem d_Co_add_107 : decode prog_2_method_19_code 107 = .ok (.if_icmp .ge 32, 3) := by decide +kernel
theorem d_Co_add_110 : decode prog_2_method_19_code 110 = .ok (.aload_n 0, 1) := by decide +kernel
theorem d_Co_add_111 : decode prog_2_method_19_code 111 = .ok (.getfield 21, 3) := by decide +kernel
theorem d_Co_add_114 : decode prog_2_method_19_code 114 = .ok (.iload 5, 2) := by decide +kernel
theorem d_Co_add_116 : decode prog_2_method_19_code 116 = .ok (.bipush 16, 2) := by decide +kernel
theorem d_Co_add_118 : decode prog_2_method_19_code 118 = .ok (.imul, 1) := by decide +kernel
theorem d_Co_add_119 : decode prog_2_method_19_code 119 = .ok (.iload 7, 2) := by decide +kernel
theorem d_Co_add_121 : decode prog_2_method_19_code 121 = .ok (.iadd, 1) := by decide +kernel
theorem d_Co_add_122 : decode prog_2_method_19_code 122 = .ok (.aload_n 0, 1) := by decide +kernel
theorem d_Co_add_123 : decode prog_2_method_19_code 123 = .ok (.iload_n 1, 1) := by decide +kernel
theorem d_Co_add_124 : decode prog_2_method_19_code 124 = .ok (.iload 6, 2) := by decide +kernel
theorem d_Co_add_126 : decode prog_2_method_19_code 126 = .ok (.iload_n 3, 1) := by decide +kernel
theorem d_Co_add_127 : decode prog_2_method_19_code 127 = .ok (.iload 7, 2) := by decide +kernel
theorem d_Co_add_129 : decode prog_2_method_19_code 129 = .ok (.invokevirtual 79, 3) := by decide +kernel
theorem d_Co_add_132 : decode prog_2_method_19_code 132 = .ok (.lastore, 1) := by decide +kernel
theorem d_Co_add_133 : decode prog_2_method_19_code 133 = .ok (.iinc 7 1, 3) := by decide +kernel
theorem d_Co_add_136 : decode prog_2_method_19_code 136 = .ok (.goto (-33), 3) := by decide +kernel
theorem d_Co_add_139 : decode prog_2_method_19_code 139 = .ok (.aload_n 0, 1) := by decide +kernel
theorem d_Co_add_140 : decode prog_2_method_19_code 140 = .ok (.dup, 1) := by decide +kernel
theorem d_Co_add_141 : decode prog_2_method_19_code 141 = .ok (.getfield 38, 3) := by decide +kernel
theorem d_Co_add_144 : decode prog_2_method_19_code 144 = .ok (.iconst 1, 1) := by decide +kernel
theorem d_Co_add_145 : decode prog_2_method_19_code 145 = .ok (.iadd, 1) := by decide +kernel
theorem d_Co_add_146 : decode prog_2_method_19_code 146 = .ok (.putfield 38, 3) := by decide +kernel
theorem d_Co_add_149 : decode prog_2_method_19_code 149 = .ok (.iload 4, 2) := by decide +kernel
theorem d_Co_add_151 : decode prog_2_method_19_code 151 = .ok (.ifCond .eq 9, 3) := by decide +kernel
theorem d_Co_add_154 : decode prog_2_method_19_code 154 = .ok (.aload_n 0, 1) := by decide +kernel
theorem d_Co_add_155 : decode prog_2_method_19_code 155 = .ok (.iload 5, 2) := by decide +kernel
theorem d_Co_add_157 : decode prog_2_method_19_code 157 = .ok (.invokevirtual 83, 3) := by decide +kernel
theorem d_Co_add_160 : decode prog_2_method_19_code 160 = .ok (.iload 5, 2) := by decide +kernel
theorem d_Co_add_162 : decode prog_2_method_19_code 162 = .ok (.ireturn, 1) := by decide +kernel
theorem d_Co_make_0 : decode prog_2_method_9_code 0 = .ok (.aload_n 0, 1) := by decide +kernel
theorem d_Co_make_1 : decode prog_2_method_9_code 1 = .ok (.iload_n 1, 1) := by decide +kernel
theorem d_Co_make_2 : decode prog_2_method_9_code 2 = .ok (.iload_n 2, 1) := by decide +kernel
theorem d_Co_make_3 : decode prog_2_method_9_code 3 = .ok (.iload_n 3, 1) := by decide +kernel
theorem d_Co_make_4 : decode prog_2_method_9_code 4 = .ok (.invokevirtual 55, 3) := by decide +kernel
theorem d_Co_make_7 : decode prog_2_method_9_code 7 = .ok (.istore 4, 2) := by decide +kernel
theorem d_Co_make_9 : decode prog_2_method_9_code 9 = .ok (.iload 4, 2) := by decide +kernel
theorem d_Co_make_11 : decode prog_2_method_9_code 11 = .ok (.iconst (-1), 1) := by decide +kernel
theorem d_Co_make_12 : decode prog_2_method_9_code 12 = .ok (.if_icmp .ne 13, 3) := by decide +kernel
theorem d_Co_make_15 : decode prog_2_method_9_code 15 = .ok (.aload_n 0, 1) := by decide +kernel
theorem d_Co_make_16 : decode prog_2_method_9_code 16 = .ok (.iload_n 1, 1) := by decide +kernel
theorem d_Co_make_17 : decode prog_2_method_9_code 17 = .ok (.iload_n 2, 1) := by decide +kernel
theorem d_Co_make_18 : decode prog_2_method_9_code 18 = .ok (.iload_n 3, 1) := by decide +kernel
theorem d_Co_make_19 : decode prog_2_method_9_code 19 = .ok (.invokevirtual 58, 3) := by decide +kernel
theorem d_Co_make_22 : decode prog_2_method_9_code 22 = .ok (.goto 5, 3) := by decide +kernel
theorem d_Co_make_25 : decode prog_2_method_9_code 25 = .ok (.iload 4, 2) := by decide +kernel
theorem d_Co_make_27 : decode prog_2_method_9_code 27 = .ok (.ireturn, 1) := by decide +kernel
theorem d_Co_isThere_0 : decode prog_2_method_7_code 0 = .ok (.iload_n 1, 1) := by decide +kernel
theorem d_Co_isThere_1 : decode prog_2_method_7_code 1 = .ok (.ifCond .lt 15, 3) := by decide +kernel
theorem d_Co_isThere_4 : decode prog_2_method_7_code 4 = .ok (.iload_n 1, 1) := by decide +kernel
theorem d_Co_isThere_5 : decode prog_2_method_7_code 5 = .ok (.aload_n 0, 1) := by decide +kernel
theorem d_Co_isThere_6 : decode prog_2_method_7_code 6 = .ok (.getfield 38, 3) := by decide +kernel
theorem d_Co_isThere_9 : decode prog_2_method_7_code 9 = .ok (.if_icmp .ge 7, 3) := by decide +kernel
theorem d_Co_isThere_12 : decode prog_2_method_7_code 12 = .ok (.iconst 1, 1) := by decide +kernel
theorem d_Co_isThere_13 : decode prog_2_method_7_code 13 = .ok (.goto 4, 3) := by decide +kernel
theorem d_Co_isThere_16 : decode prog_2_method_7_code 16 = .ok (.iconst 0, 1) := by decide +kernel
theorem d_Co_isThere_17 : decode prog_2_method_7_code 17 = .ok (.ireturn, 1) := by decide +kernel
noncomputable def bk_Tn_isBelow_0 : List Int32 → List Int64 → tq_S → Option tq_C
  | [x0, x1], [], σ => if x0 < 0 then some (tq_rt, [0], [], σ) else if x1 ≤ x0 then some (tq_rt, [0], [], σ) else some (tq_rt, [1], [], σ)
  | _, _, _ => none
noncomputable def st_Tn_isBelow (c : tq_C) : Option tq_C := if c.1 = 0 then bk_Tn_isBelow_0 c.2.1 c.2.2.1 c.2.2.2 else none
set_option maxHeartbeats 40000000 in
set_option maxRecDepth 100000 in
theorem c_Tn_isBelow (l : Launch) (dC : Nat → ClassId) (dI : Nat → Nat → Nat) (cI cL cZ : ClassId) (ad : Nat → Nat) (tt : Nat) (sz : Nat) (σ : tq_S) (a0 : Int32) (a1 : Int32) (r : Int32) (σ' : tq_S) (hf : tq_fI st_Tn_isBelow (0, [a0, a1], [], σ) = some (r, σ')) : Met l y_Tn_isBelow w_Tn_isBelow ({ frames := 0, cells := 0, slots := 0, locals := 0 } : Room) (va_Pc [.int a0, .int a1] (tq_B dC dI cI cL cZ tt (wo cI cL cZ ad σ) sz)) (va_Qi (fun (r' : Int32) (u : tq_S) => r' = r ∧ u = σ') (tq_E dC dI cI cL cZ (wo cI cL cZ ad) (va_A (wo cI cL cZ ad σ) sz)) (va_A (wo cI cL cZ ad σ) sz)) 0 0 (va_A (wo cI cL cZ ad σ) sz) := by
  obtain ⟨n0, h0⟩ := tq_fI_to hf
  refine Met.ofW (cc := prog_1_method_21_code) (maxL := 2) (ret := (some .boolean)) (by decide) rfl ?_
  intro p e s m args below meth c s₁ B hml hv
  obtain ⟨rfl, hsz, hP, hK, hD0, hZ, hN⟩ := hv
  have hx := B.exec
  have hb := B.bytes
  have hr := B.returns
  have hts : ∀ w ∈ tq_T, w.before _ s = true := fun w h => atoms_spec (ws := w_Tn_isBelow) B.pre w (List.mem_cons_of_mem _ h)
  have hown : s.vm.findClass "TableauNodes" = some m.cls := findClass_of_methodNamed B.named
  have hlocks := B.notSynchronized
  subst hsz
  have hD := hD0.self (sz := s.heap.size)
  have hS : va_S (va_A (wo cI cL cZ ad σ) s.heap.size) s.heap s.heap [] := va_S.rf
  have hA : ∀ q : Nat, s.heap.size ≤ q → va_A (wo cI cL cZ ad σ) s.heap.size q := fun q h => Or.inr h
  generalize va_A (wo cI cL cZ ad σ) s.heap.size = A at hD hS hA hZ ⊢
  have hl := lv_entry ([.int a0, .int a1]) (n := 2) (Nat.le_of_ble_eq_true rfl)
  rw [lg_entry_eq]
  generalize (lg_sl ([.int a0, .int a1]) ++ List.replicate (2 - (lg_sl ([.int a0, .int a1])).length) Slot.unset).toArray = ls at hl ⊢
  have hl : lv_has ls 2 [(0, .int a0), (1, .int a1)] := hl
  have key : ∀ n : Nat, (∀ {x0 x1 : Int32} {σ : tq_S} {H : Heap} {locs : List Loc} {ls : Array Slot}, va_P (dC, dI) tq_cl (wo cI cL cZ ad σ) H → va_D A (wo cI cL cZ ad σ) → va_S A s.heap H locs → lv_has ls 2 [(0, .int x0), (1, .int x1)] → tq_go st_Tn_isBelow n (0, [x0, x1], [], σ) = some (tq_rt, [r], [], σ') → W p l e (headSpec w_Tn_isBelow ({ frames := 0, cells := 0, slots := 0, locals := 0 } : Room)).room s m ([.int a0, .int a1] : List Value).toArray below meth c H locs 0 0 (MQ below (va_Qi (fun (r' : Int32) (u : tq_S) => r' = r ∧ u = σ') (tq_E dC dI cI cL cZ (wo cI cL cZ ad) A) A) ([.int a0, .int a1] : List Value).toArray s 0 0 A) (F0 m 0 ls [])) := by
    intro n
    induction n with
    | zero => exact fun _ _ _ _ h => by cases h
    | succ n ih =>
      intro x0 x1 σ H locs ls hP hD hS hl h9
      obtain ⟨q9, hg, hn⟩ := tq_go_s h9 (show ¬ (0 : Nat) = tq_rt by decide)
      replace hg : bk_Tn_isBelow_0 [x0, x1] [] σ = some q9 := hg
      unfold bk_Tn_isBelow_0 at hg
      refine lv_iload_n hx hb d_Tn_isBelow_0 rfl (lv_at hl 0 rfl) ?_
      refine lv_if_lt (tgt := 13) hx hb d_Tn_isBelow_1 (by decide) (fun c1 => ?_) (fun c1 => ?_)
      · replace hg := tq_if_t c1 hg
        refine lv_iconst (v := 0) hx hb d_Tn_isBelow_13 (by decide) ?_
        exact W.zret (v := 0) hx hb hr rfl (fun t ht hW => ⟨⟨0, σ, rfl, tq_grI hg hn, by rw [ht]; exact hP, va_K.moved hW.alike hK, hD⟩, hS.F ht⟩) hS.2.2 d_Tn_isBelow_14
      · replace hg := tq_if_f c1 hg
        refine lv_iload_n hx hb d_Tn_isBelow_4 rfl (lv_at hl 0 rfl) ?_
        refine lv_iload_n hx hb d_Tn_isBelow_5 rfl (lv_at hl 1 rfl) ?_
        refine lv_icmp_ge (tgt := 13) hx hb d_Tn_isBelow_6 (by decide) (fun c2 => ?_) (fun c2 => ?_)
        · replace hg := tq_if_t c2 hg
          refine lv_iconst (v := 0) hx hb d_Tn_isBelow_13 (by decide) ?_
          exact W.zret (v := 0) hx hb hr rfl (fun t ht hW => ⟨⟨0, σ, rfl, tq_grI hg hn, by rw [ht]; exact hP, va_K.moved hW.alike hK, hD⟩, hS.F ht⟩) hS.2.2 d_Tn_isBelow_14
        · replace hg := tq_if_f c2 hg
          refine lv_iconst (v := 1) hx hb d_Tn_isBelow_9 (by decide) ?_
          refine lv_goto (tgt := 14) hx hb d_Tn_isBelow_10 (by decide) ?_
          exact W.zret (v := 1) hx hb hr rfl (fun t ht hW => ⟨⟨1, σ, rfl, tq_grI hg hn, by rw [ht]; exact hP, va_K.moved hW.alike hK, hD⟩, hS.F ht⟩) hS.2.2 d_Tn_isBelow_14
  exact (key n0) hP hD hS hl h0
noncomputable def bk_Tn_hasBit_0 : List Int32 → List Int64 → tq_S → Option tq_C
  | [x2], [y0], σ => if (lg_cmp ((jlushr y0 x2) &&& 1) 0) = 0 then some (tq_rt, [0], [], σ) else some (tq_rt, [1], [], σ)
  | _, _, _ => none
noncomputable def st_Tn_hasBit (c : tq_C) : Option tq_C := if c.1 = 0 then bk_Tn_hasBit_0 c.2.1 c.2.2.1 c.2.2.2 else none
set_option maxHeartbeats 40000000 in
set_option maxRecDepth 100000 in
theorem c_Tn_hasBit (l : Launch) (dC : Nat → ClassId) (dI : Nat → Nat → Nat) (cI cL cZ : ClassId) (ad : Nat → Nat) (tt : Nat) (sz : Nat) (σ : tq_S) (a2 : Int32) (b0 : Int64) (r : Int32) (σ' : tq_S) (hf : tq_fI st_Tn_hasBit (0, [a2], [b0], σ) = some (r, σ')) : Met l y_Tn_hasBit w_Tn_hasBit ({ frames := 0, cells := 0, slots := 0, locals := 0 } : Room) (va_Pc [.long b0, .int a2] (tq_B dC dI cI cL cZ tt (wo cI cL cZ ad σ) sz)) (va_Qi (fun (r' : Int32) (u : tq_S) => r' = r ∧ u = σ') (tq_E dC dI cI cL cZ (wo cI cL cZ ad) (va_A (wo cI cL cZ ad σ) sz)) (va_A (wo cI cL cZ ad σ) sz)) 0 0 (va_A (wo cI cL cZ ad σ) sz) := by
  obtain ⟨n0, h0⟩ := tq_fI_to hf
  refine Met.ofW (cc := prog_1_method_22_code) (maxL := 3) (ret := (some .boolean)) (by decide) rfl ?_
  intro p e s m args below meth c s₁ B hml hv
  obtain ⟨rfl, hsz, hP, hK, hD0, hZ, hN⟩ := hv
  have hx := B.exec
  have hb := B.bytes
  have hr := B.returns
  have hts : ∀ w ∈ tq_T, w.before _ s = true := fun w h => atoms_spec (ws := w_Tn_hasBit) B.pre w (List.mem_cons_of_mem _ h)
  have hown : s.vm.findClass "TableauNodes" = some m.cls := findClass_of_methodNamed B.named
  have hlocks := B.notSynchronized
  subst hsz
  have hD := hD0.self (sz := s.heap.size)
  have hS : va_S (va_A (wo cI cL cZ ad σ) s.heap.size) s.heap s.heap [] := va_S.rf
  have hA : ∀ q : Nat, s.heap.size ≤ q → va_A (wo cI cL cZ ad σ) s.heap.size q := fun q h => Or.inr h
  generalize va_A (wo cI cL cZ ad σ) s.heap.size = A at hD hS hA hZ ⊢
  have hl := lv_entry ([.long b0, .int a2]) (n := 3) (Nat.le_of_ble_eq_true rfl)
  rw [lg_entry_eq]
  generalize (lg_sl ([.long b0, .int a2]) ++ List.replicate (3 - (lg_sl ([.long b0, .int a2])).length) Slot.unset).toArray = ls at hl ⊢
  have hl : lv_has ls 3 [(0, .long b0), (2, .int a2)] := hl
  have key : ∀ n : Nat, (∀ {x2 : Int32} {y0 : Int64} {σ : tq_S} {H : Heap} {locs : List Loc} {ls : Array Slot}, va_P (dC, dI) tq_cl (wo cI cL cZ ad σ) H → va_D A (wo cI cL cZ ad σ) → va_S A s.heap H locs → lv_has ls 3 [(0, .long y0), (2, .int x2)] → tq_go st_Tn_hasBit n (0, [x2], [y0], σ) = some (tq_rt, [r], [], σ') → W p l e (headSpec w_Tn_hasBit ({ frames := 0, cells := 0, slots := 0, locals := 0 } : Room)).room s m ([.long b0, .int a2] : List Value).toArray below meth c H locs 0 0 (MQ below (va_Qi (fun (r' : Int32) (u : tq_S) => r' = r ∧ u = σ') (tq_E dC dI cI cL cZ (wo cI cL cZ ad) A) A) ([.long b0, .int a2] : List Value).toArray s 0 0 A) (F0 m 0 ls [])) := by
    intro n
    induction n with
    | zero => exact fun _ _ _ _ h => by cases h
    | succ n ih =>
      intro x2 y0 σ H locs ls hP hD hS hl h9
      obtain ⟨q9, hg, hn⟩ := tq_go_s h9 (show ¬ (0 : Nat) = tq_rt by decide)
      replace hg : bk_Tn_hasBit_0 [x2] [y0] σ = some q9 := hg
      unfold bk_Tn_hasBit_0 at hg
      refine lv_lload_n hx hb d_Tn_hasBit_0 rfl (lv_at hl 0 rfl) ?_
      refine lv_iload_n hx hb d_Tn_hasBit_1 rfl (lv_at hl 1 rfl) ?_
      refine lv_lushr hx hb d_Tn_hasBit_2 rfl ?_
      refine lv_lconst (v := 1) hx hb d_Tn_hasBit_3 (by decide) ?_
      refine lv_land hx hb d_Tn_hasBit_4 ?_
      refine lv_lconst (v := 0) hx hb d_Tn_hasBit_5 (by decide) ?_
      refine W.lcmp hx hb d_Tn_hasBit_6 ?_
      refine lv_if_eq (tgt := 14) hx hb d_Tn_hasBit_7 (by decide) (fun c1 => ?_) (fun c1 => ?_)
      · replace hg := tq_if_t c1 hg
        refine lv_iconst (v := 0) hx hb d_Tn_hasBit_14 (by decide) ?_
        exact W.zret (v := 0) hx hb hr rfl (fun t ht hW => ⟨⟨0, σ, rfl, tq_grI hg hn, by rw [ht]; exact hP, va_K.moved hW.alike hK, hD⟩, hS.F ht⟩) hS.2.2 d_Tn_hasBit_15
      · replace hg := tq_if_f c1 hg
        refine lv_iconst (v := 1) hx hb d_Tn_hasBit_10 (by decide) ?_
        refine lv_goto (tgt := 15) hx hb d_Tn_hasBit_11 (by decide) ?_
        exact W.zret (v := 1) hx hb hr rfl (fun t ht hW => ⟨⟨1, σ, rfl, tq_grI hg hn, by rw [ht]; exact hP, va_K.moved hW.alike hK, hD⟩, hS.F ht⟩) hS.2.2 d_Tn_hasBit_15
  exact (key n0) hP hD hS hl h0
noncomputable def bk_Ji_bitCount_0 : List Int32 → List Int64 → tq_S → Option tq_C
  | [x0], [], σ => tq_lj (x0 - ((jiushr x0 1) &&& 1431655765)) (fun v1 => tq_lj ((v1 &&& 858993459) + ((jiushr v1 2) &&& 858993459)) (fun v2 => tq_lj ((v2 + (jiushr v2 4)) &&& 252645135) (fun v3 => tq_lj (v3 + (jiushr v3 8)) (fun v4 => tq_lj (v4 + (jiushr v4 16)) (fun v5 => some (tq_rt, [(v5 &&& 63)], [], σ))))))
  | _, _, _ => none
noncomputable def st_Ji_bitCount (c : tq_C) : Option tq_C := if c.1 = 0 then bk_Ji_bitCount_0 c.2.1 c.2.2.1 c.2.2.2 else none
set_option maxHeartbeats 40000000 in
set_option maxRecDepth 100000 in
theorem c_Ji_bitCount (l : Launch) (dC : Nat → ClassId) (dI : Nat → Nat → Nat) (cI cL cZ : ClassId) (ad : Nat → Nat) (tt : Nat) (sz : Nat) (σ : tq_S) (a0 : Int32) (r : Int32) (σ' : tq_S) (hf : tq_fI st_Ji_bitCount (0, [a0], [], σ) = some (r, σ')) : Met l y_Ji_bitCount w_Ji_bitCount ({ frames := 0, cells := 0, slots := 0, locals := 0 } : Room) (va_Pc [.int a0] (tq_B dC dI cI cL cZ tt (wo cI cL cZ ad σ) sz)) (va_Qi (fun (r' : Int32) (u : tq_S) => r' = r ∧ u = σ') (tq_E dC dI cI cL cZ (wo cI cL cZ ad) (va_A (wo cI cL cZ ad σ) sz)) (va_A (wo cI cL cZ ad σ) sz)) 0 0 (va_A (wo cI cL cZ ad σ) sz) := by
  obtain ⟨n0, h0⟩ := tq_fI_to hf
  refine va_MetF (cc := prog_8_method_49_code) (maxL := 1) (ret := (some .int)) (by decide) rfl ?_
  intro p e s m args below meth c s₁ B hml hv
  obtain ⟨rfl, hsz, hP, hK, hD0, hZ, hN⟩ := hv
  have hx := B.exec
  have hb := B.bytes
  have hr := B.returns
  have hts : ∀ w ∈ tq_T, w.before _ s = true := fun w h => atoms_spec (ws := w_Ji_bitCount) B.pre w (List.mem_cons_of_mem _ h)
  have hown : s.vm.findClass "java/lang/Integer" = some m.cls := findClass_of_methodNamed B.named
  have hlocks := B.notSynchronized
  subst hsz
  have hD := hD0.self (sz := s.heap.size)
  have hS : va_S (va_A (wo cI cL cZ ad σ) s.heap.size) s.heap s.heap [] := va_S.rf
  have hA : ∀ q : Nat, s.heap.size ≤ q → va_A (wo cI cL cZ ad σ) s.heap.size q := fun q h => Or.inr h
  generalize va_A (wo cI cL cZ ad σ) s.heap.size = A at hD hS hA hZ ⊢
  have hl := lv_entry ([.int a0]) (n := 1) (Nat.le_of_ble_eq_true rfl)
  rw [lg_entry_eq]
  generalize (lg_sl ([.int a0]) ++ List.replicate (1 - (lg_sl ([.int a0])).length) Slot.unset).toArray = ls at hl ⊢
  have hl : lv_has ls 1 [(0, .int a0)] := hl
  have key : ∀ n : Nat, (∀ {x0 : Int32} {σ : tq_S} {H : Heap} {locs : List Loc} {ls : Array Slot}, va_P (dC, dI) tq_cl (wo cI cL cZ ad σ) H → va_D A (wo cI cL cZ ad σ) → va_S A s.heap H locs → lv_has ls 1 [(0, .int x0)] → tq_go st_Ji_bitCount n (0, [x0], [], σ) = some (tq_rt, [r], [], σ') → W p l e (headSpec w_Ji_bitCount ({ frames := 0, cells := 0, slots := 0, locals := 0 } : Room)).room s m ([.int a0] : List Value).toArray below meth c H locs 0 0 (MQ below (va_Qi (fun (r' : Int32) (u : tq_S) => r' = r ∧ u = σ') (tq_E dC dI cI cL cZ (wo cI cL cZ ad) A) A) ([.int a0] : List Value).toArray s 0 0 A) (F0 m 0 ls [])) := by
    intro n
    induction n with
    | zero => exact fun _ _ _ _ h => by cases h
    | succ n ih =>
      intro x0 σ H locs ls hP hD hS hl h9
      obtain ⟨q9, hg, hn⟩ := tq_go_s h9 (show ¬ (0 : Nat) = tq_rt by decide)
      replace hg : bk_Ji_bitCount_0 [x0] [] σ = some q9 := hg
      unfold bk_Ji_bitCount_0 at hg
      refine lv_iload_n hx hb d_Ji_bitCount_0 rfl (lv_at hl 0 rfl) ?_
      refine lv_iload_n hx hb d_Ji_bitCount_1 rfl (lv_at hl 0 rfl) ?_
      refine lv_iconst (v := 1) hx hb d_Ji_bitCount_2 (by decide) ?_
      refine lv_iushr hx hb d_Ji_bitCount_3 rfl ?_
      refine lv_ldcw (v := 1431655765) hx hb hown (hts _ tw_377) d_Ji_bitCount_4 ?_
      refine lv_iand hx hb d_Ji_bitCount_7 ?_
      refine lv_isub hx hb d_Ji_bitCount_8 ?_
      obtain ⟨v1, ev1, hg⟩ := tq_lj_s hg
      refine tq_nmi ev1 ?_
      refine lv_istore_n (lv' := [(0, .int v1)]) hx hb d_Ji_bitCount_9 rfl hl (by decide) rfl (fun ls hl => ?_)
      refine lv_iload_n hx hb d_Ji_bitCount_10 rfl (lv_at hl 0 rfl) ?_
      refine lv_ldcw (v := 858993459) hx hb hown (hts _ tw_378) d_Ji_bitCount_11 ?_
      refine lv_iand hx hb d_Ji_bitCount_14 ?_
      refine lv_iload_n hx hb d_Ji_bitCount_15 rfl (lv_at hl 0 rfl) ?_
      refine lv_iconst (v := 2) hx hb d_Ji_bitCount_16 (by decide) ?_
      refine lv_iushr hx hb d_Ji_bitCount_17 rfl ?_
      refine lv_ldcw (v := 858993459) hx hb hown (hts _ tw_378) d_Ji_bitCount_18 ?_
      refine lv_iand hx hb d_Ji_bitCount_21 ?_
      refine lv_iadd hx hb d_Ji_bitCount_22 ?_
      obtain ⟨v2, ev2, hg⟩ := tq_lj_s hg
      refine tq_nmi ev2 ?_
      refine lv_istore_n (lv' := [(0, .int v2)]) hx hb d_Ji_bitCount_23 rfl hl (by decide) rfl (fun ls hl => ?_)
      refine lv_iload_n hx hb d_Ji_bitCount_24 rfl (lv_at hl 0 rfl) ?_
      refine lv_iload_n hx hb d_Ji_bitCount_25 rfl (lv_at hl 0 rfl) ?_
      refine lv_iconst (v := 4) hx hb d_Ji_bitCount_26 (by decide) ?_
      refine lv_iushr hx hb d_Ji_bitCount_27 rfl ?_
      refine lv_iadd hx hb d_Ji_bitCount_28 ?_
      refine lv_ldcw (v := 252645135) hx hb hown (hts _ tw_379) d_Ji_bitCount_29 ?_
      refine lv_iand hx hb d_Ji_bitCount_32 ?_
      obtain ⟨v3, ev3, hg⟩ := tq_lj_s hg
      refine tq_nmi ev3 ?_
      refine lv_istore_n (lv' := [(0, .int v3)]) hx hb d_Ji_bitCount_33 rfl hl (by decide) rfl (fun ls hl => ?_)
      refine lv_iload_n hx hb d_Ji_bitCount_34 rfl (lv_at hl 0 rfl) ?_
      refine lv_iload_n hx hb d_Ji_bitCount_35 rfl (lv_at hl 0 rfl) ?_
      refine lv_bipush (v := 8) hx hb d_Ji_bitCount_36 (by decide) ?_
      refine lv_iushr hx hb d_Ji_bitCount_38 rfl ?_
      refine lv_iadd hx hb d_Ji_bitCount_39 ?_
      obtain ⟨v4, ev4, hg⟩ := tq_lj_s hg
      refine tq_nmi ev4 ?_
      refine lv_istore_n (lv' := [(0, .int v4)]) hx hb d_Ji_bitCount_40 rfl hl (by decide) rfl (fun ls hl => ?_)
      refine lv_iload_n hx hb d_Ji_bitCount_41 rfl (lv_at hl 0 rfl) ?_
      refine lv_iload_n hx hb d_Ji_bitCount_42 rfl (lv_at hl 0 rfl) ?_
      refine lv_bipush (v := 16) hx hb d_Ji_bitCount_43 (by decide) ?_
      refine lv_iushr hx hb d_Ji_bitCount_45 rfl ?_
      refine lv_iadd hx hb d_Ji_bitCount_46 ?_
      obtain ⟨v5, ev5, hg⟩ := tq_lj_s hg
      refine tq_nmi ev5 ?_
      refine lv_istore_n (lv' := [(0, .int v5)]) hx hb d_Ji_bitCount_47 rfl hl (by decide) rfl (fun ls hl => ?_)
      refine lv_iload_n hx hb d_Ji_bitCount_48 rfl (lv_at hl 0 rfl) ?_
      refine lv_bipush (v := 63) hx hb d_Ji_bitCount_49 (by decide) ?_
      refine lv_iand hx hb d_Ji_bitCount_51 ?_
      exact W.iret (v := (v5 &&& 63)) hx hb hr (fun t ht hW => ⟨⟨(v5 &&& 63), σ, rfl, tq_grI hg hn, by rw [ht]; exact hP, va_K.moved hW.alike hK, hD⟩, hS.F ht⟩) hS.2.2 d_Ji_bitCount_52
  exact (key n0) hP hD hS hl h0
noncomputable def bk_Jl_bitCount_0 : List Int32 → List Int64 → tq_S → Option tq_C
  | [], [y0], σ => tq_lj (y0 - ((jlushr y0 1) &&& 6148914691236517205)) (fun v1 => tq_lj ((v1 &&& 3689348814741910323) + ((jlushr v1 2) &&& 3689348814741910323)) (fun v2 => tq_lj ((v2 + (jlushr v2 4)) &&& 1085102592571150095) (fun v3 => tq_lj (v3 + (jlushr v3 8)) (fun v4 => tq_lj (v4 + (jlushr v4 16)) (fun v5 => tq_lj (v5 + (jlushr v5 32)) (fun v6 => some (tq_rt, [(v6.toInt32 &&& 127)], [], σ)))))))
  | _, _, _ => none
noncomputable def st_Jl_bitCount (c : tq_C) : Option tq_C := if c.1 = 0 then bk_Jl_bitCount_0 c.2.1 c.2.2.1 c.2.2.2 else none
set_option maxHeartbeats 40000000 in
set_option maxRecDepth 100000 in
theorem c_Jl_bitCount (l : Launch) (dC : Nat → ClassId) (dI : Nat → Nat → Nat) (cI cL cZ : ClassId) (ad : Nat → Nat) (tt : Nat) (sz : Nat) (σ : tq_S) (b0 : Int64) (r : Int32) (σ' : tq_S) (hf : tq_fI st_Jl_bitCount (0, [], [b0], σ) = some (r, σ')) : Met l y_Jl_bitCount w_Jl_bitCount ({ frames := 0, cells := 0, slots := 0, locals := 0 } : Room) (va_Pc [.long b0] (tq_B dC dI cI cL cZ tt (wo cI cL cZ ad σ) sz)) (va_Qi (fun (r' : Int32) (u : tq_S) => r' = r ∧ u = σ') (tq_E dC dI cI cL cZ (wo cI cL cZ ad) (va_A (wo cI cL cZ ad σ) sz)) (va_A (wo cI cL cZ ad σ) sz)) 0 0 (va_A (wo cI cL cZ ad σ) sz) := by
  obtain ⟨n0, h0⟩ := tq_fI_to hf
  refine va_MetF (cc := prog_9_method_50_code) (maxL := 2) (ret := (some .int)) (by decide) rfl ?_
  intro p e s m args below meth c s₁ B hml hv
  obtain ⟨rfl, hsz, hP, hK, hD0, hZ, hN⟩ := hv
  have hx := B.exec
  have hb := B.bytes
  have hr := B.returns
  have hts : ∀ w ∈ tq_T, w.before _ s = true := fun w h => atoms_spec (ws := w_Jl_bitCount) B.pre w (List.mem_cons_of_mem _ h)
  have hown : s.vm.findClass "java/lang/Long" = some m.cls := findClass_of_methodNamed B.named
  have hlocks := B.notSynchronized
  subst hsz
  have hD := hD0.self (sz := s.heap.size)
  have hS : va_S (va_A (wo cI cL cZ ad σ) s.heap.size) s.heap s.heap [] := va_S.rf
  have hA : ∀ q : Nat, s.heap.size ≤ q → va_A (wo cI cL cZ ad σ) s.heap.size q := fun q h => Or.inr h
  generalize va_A (wo cI cL cZ ad σ) s.heap.size = A at hD hS hA hZ ⊢
  have hl := lv_entry ([.long b0]) (n := 2) (Nat.le_of_ble_eq_true rfl)
  rw [lg_entry_eq]
  generalize (lg_sl ([.long b0]) ++ List.replicate (2 - (lg_sl ([.long b0])).length) Slot.unset).toArray = ls at hl ⊢
  have hl : lv_has ls 2 [(0, .long b0)] := hl
  have key : ∀ n : Nat, (∀ {y0 : Int64} {σ : tq_S} {H : Heap} {locs : List Loc} {ls : Array Slot}, va_P (dC, dI) tq_cl (wo cI cL cZ ad σ) H → va_D A (wo cI cL cZ ad σ) → va_S A s.heap H locs → lv_has ls 2 [(0, .long y0)] → tq_go st_Jl_bitCount n (0, [], [y0], σ) = some (tq_rt, [r], [], σ') → W p l e (headSpec w_Jl_bitCount ({ frames := 0, cells := 0, slots := 0, locals := 0 } : Room)).room s m ([.long b0] : List Value).toArray below meth c H locs 0 0 (MQ below (va_Qi (fun (r' : Int32) (u : tq_S) => r' = r ∧ u = σ') (tq_E dC dI cI cL cZ (wo cI cL cZ ad) A) A) ([.long b0] : List Value).toArray s 0 0 A) (F0 m 0 ls [])) := by
    intro n
    induction n with
    | zero => exact fun _ _ _ _ h => by cases h
    | succ n ih =>
      intro y0 σ H locs ls hP hD hS hl h9
      obtain ⟨q9, hg, hn⟩ := tq_go_s h9 (show ¬ (0 : Nat) = tq_rt by decide)
      replace hg : bk_Jl_bitCount_0 [] [y0] σ = some q9 := hg
      unfold bk_Jl_bitCount_0 at hg
      refine lv_lload_n hx hb d_Jl_bitCount_0 rfl (lv_at hl 0 rfl) ?_
      refine lv_lload_n hx hb d_Jl_bitCount_1 rfl (lv_at hl 0 rfl) ?_
      refine lv_iconst (v := 1) hx hb d_Jl_bitCount_2 (by decide) ?_
      refine lv_lushr hx hb d_Jl_bitCount_3 rfl ?_
      refine lv_ldc2 (v := 6148914691236517205) hx hb hown (hts _ tw_395) d_Jl_bitCount_4 ?_
      refine lv_land hx hb d_Jl_bitCount_7 ?_
      refine lv_lsub hx hb d_Jl_bitCount_8 ?_
      obtain ⟨v1, ev1, hg⟩ := tq_lj_s hg
      refine tq_nml ev1 ?_
      refine lv_lstore_n (lv' := [(0, .long v1)]) hx hb d_Jl_bitCount_9 rfl hl (by decide) rfl (fun ls hl => ?_)
      refine lv_lload_n hx hb d_Jl_bitCount_10 rfl (lv_at hl 0 rfl) ?_
      refine lv_ldc2 (v := 3689348814741910323) hx hb hown (hts _ tw_396) d_Jl_bitCount_11 ?_
      refine lv_land hx hb d_Jl_bitCount_14 ?_
      refine lv_lload_n hx hb d_Jl_bitCount_15 rfl (lv_at hl 0 rfl) ?_
      refine lv_iconst (v := 2) hx hb d_Jl_bitCount_16 (by decide) ?_
      refine lv_lushr hx hb d_Jl_bitCount_17 rfl ?_
      refine lv_ldc2 (v := 3689348814741910323) hx hb hown (hts _ tw_396) d_Jl_bitCount_18 ?_
      refine lv_land hx hb d_Jl_bitCount_21 ?_
      refine lv_ladd hx hb d_Jl_bitCount_22 ?_
      obtain ⟨v2, ev2, hg⟩ := tq_lj_s hg
      refine tq_nml ev2 ?_
      refine lv_lstore_n (lv' := [(0, .long v2)]) hx hb d_Jl_bitCount_23 rfl hl (by decide) rfl (fun ls hl => ?_)
      refine lv_lload_n hx hb d_Jl_bitCount_24 rfl (lv_at hl 0 rfl) ?_
      refine lv_lload_n hx hb d_Jl_bitCount_25 rfl (lv_at hl 0 rfl) ?_
      refine lv_iconst (v := 4) hx hb d_Jl_bitCount_26 (by decide) ?_
      refine lv_lushr hx hb d_Jl_bitCount_27 rfl ?_
      refine lv_ladd hx hb d_Jl_bitCount_28 ?_
      refine lv_ldc2 (v := 1085102592571150095) hx hb hown (hts _ tw_397) d_Jl_bitCount_29 ?_
      refine lv_land hx hb d_Jl_bitCount_32 ?_
      obtain ⟨v3, ev3, hg⟩ := tq_lj_s hg
      refine tq_nml ev3 ?_
      refine lv_lstore_n (lv' := [(0, .long v3)]) hx hb d_Jl_bitCount_33 rfl hl (by decide) rfl (fun ls hl => ?_)
      refine lv_lload_n hx hb d_Jl_bitCount_34 rfl (lv_at hl 0 rfl) ?_
      refine lv_lload_n hx hb d_Jl_bitCount_35 rfl (lv_at hl 0 rfl) ?_
      refine lv_bipush (v := 8) hx hb d_Jl_bitCount_36 (by decide) ?_
      refine lv_lushr hx hb d_Jl_bitCount_38 rfl ?_
      refine lv_ladd hx hb d_Jl_bitCount_39 ?_
      obtain ⟨v4, ev4, hg⟩ := tq_lj_s hg
      refine tq_nml ev4 ?_
      refine lv_lstore_n (lv' := [(0, .long v4)]) hx hb d_Jl_bitCount_40 rfl hl (by decide) rfl (fun ls hl => ?_)
      refine lv_lload_n hx hb d_Jl_bitCount_41 rfl (lv_at hl 0 rfl) ?_
      refine lv_lload_n hx hb d_Jl_bitCount_42 rfl (lv_at hl 0 rfl) ?_
      refine lv_bipush (v := 16) hx hb d_Jl_bitCount_43 (by decide) ?_
      refine lv_lushr hx hb d_Jl_bitCount_45 rfl ?_
      refine lv_ladd hx hb d_Jl_bitCount_46 ?_
      obtain ⟨v5, ev5, hg⟩ := tq_lj_s hg
      refine tq_nml ev5 ?_
      refine lv_lstore_n (lv' := [(0, .long v5)]) hx hb d_Jl_bitCount_47 rfl hl (by decide) rfl (fun ls hl => ?_)
      refine lv_lload_n hx hb d_Jl_bitCount_48 rfl (lv_at hl 0 rfl) ?_
      refine lv_lload_n hx hb d_Jl_bitCount_49 rfl (lv_at hl 0 rfl) ?_
      refine lv_bipush (v := 32) hx hb d_Jl_bitCount_50 (by decide) ?_
      refine lv_lushr hx hb d_Jl_bitCount_52 rfl ?_
      refine lv_ladd hx hb d_Jl_bitCount_53 ?_
      obtain ⟨v6, ev6, hg⟩ := tq_lj_s hg
      refine tq_nml ev6 ?_
      refine lv_lstore_n (lv' := [(0, .long v6)]) hx hb d_Jl_bitCount_54 rfl hl (by decide) rfl (fun ls hl => ?_)
      refine lv_lload_n hx hb d_Jl_bitCount_55 rfl (lv_at hl 0 rfl) ?_
      refine lv_l2i hx hb d_Jl_bitCount_56 rfl ?_
      refine lv_bipush (v := 127) hx hb d_Jl_bitCount_57 (by decide) ?_
      refine lv_iand hx hb d_Jl_bitCount_59 ?_
      exact W.iret (v := (v6.toInt32 &&& 127)) hx hb hr (fun t ht hW => ⟨⟨(v6.toInt32 &&& 127), σ, rfl, tq_grI hg hn, by rw [ht]; exact hP, va_K.moved hW.alike hK, hD⟩, hS.F ht⟩) hS.2.2 d_Jl_bitCount_60
  exact (key n0) hP hD hS hl h0
noncomputable def bk_Tn_lowestBit_0 : List Int32 → List Int64 → tq_S → Option tq_C
  | [], [y0], σ => tq_ob (tq_fI st_Jl_bitCount (0, [], [((y0 &&& (-y0)) - 1)], σ)) (fun r2 σ3 => some (tq_rt, [r2], [], σ3))
  | _, _, _ => none
noncomputable def st_Tn_lowestBit (c : tq_C) : Option tq_C := if c.1 = 0 then bk_Tn_lowestBit_0 c.2.1 c.2.2.1 c.2.2.2 else none
set_option maxHeartbeats 40000000 in
set_option maxRecDepth 100000 in
theorem c_Tn_lowestBit (l : Launch) (dC : Nat → ClassId) (dI : Nat → Nat → Nat) (cI cL cZ : ClassId) (ad : Nat → Nat) (tt : Nat) (sz : Nat) (σ : tq_S) (b0 : Int64) (r : Int32) (σ' : tq_S) (hf : tq_fI st_Tn_lowestBit (0, [], [b0], σ) = some (r, σ')) : Met l y_Tn_lowestBit w_Tn_lowestBit ({ frames := 1, cells := 0, slots := 0, locals := 21 } : Room) (va_Pc [.long b0] (tq_B dC dI cI cL cZ tt (wo cI cL cZ ad σ) sz)) (va_Qi (fun (r' : Int32) (u : tq_S) => r' = r ∧ u = σ') (tq_E dC dI cI cL cZ (wo cI cL cZ ad) (va_A (wo cI cL cZ ad σ) sz)) (va_A (wo cI cL cZ ad σ) sz)) 0 0 (va_A (wo cI cL cZ ad σ) sz) := by
  obtain ⟨n0, h0⟩ := tq_fI_to hf
  refine Met.ofW (cc := prog_1_method_23_code) (maxL := 2) (ret := (some .int)) (by decide) rfl ?_
  intro p e s m args below meth c s₁ B hml hv
  obtain ⟨rfl, hsz, hP, hK, hD0, hZ, hN⟩ := hv
  have hx := B.exec
  have hb := B.bytes
  have hr := B.returns
  have hts : ∀ w ∈ tq_T, w.before _ s = true := fun w h => atoms_spec (ws := w_Tn_lowestBit) B.pre w (List.mem_cons_of_mem _ h)
  have hown : s.vm.findClass "TableauNodes" = some m.cls := findClass_of_methodNamed B.named
  have hlocks := B.notSynchronized
  subst hsz
  have hD := hD0.self (sz := s.heap.size)
  have hS : va_S (va_A (wo cI cL cZ ad σ) s.heap.size) s.heap s.heap [] := va_S.rf
  have hA : ∀ q : Nat, s.heap.size ≤ q → va_A (wo cI cL cZ ad σ) s.heap.size q := fun q h => Or.inr h
  generalize va_A (wo cI cL cZ ad σ) s.heap.size = A at hD hS hA hZ ⊢
  have hl := lv_entry ([.long b0]) (n := 2) (Nat.le_of_ble_eq_true rfl)
  rw [lg_entry_eq]
  generalize (lg_sl ([.long b0]) ++ List.replicate (2 - (lg_sl ([.long b0])).length) Slot.unset).toArray = ls at hl ⊢
  have hl : lv_has ls 2 [(0, .long b0)] := hl
  have key : ∀ n : Nat, (∀ {y0 : Int64} {σ : tq_S} {H : Heap} {locs : List Loc} {ls : Array Slot}, va_P (dC, dI) tq_cl (wo cI cL cZ ad σ) H → va_D A (wo cI cL cZ ad σ) → va_S A s.heap H locs → lv_has ls 2 [(0, .long y0)] → tq_go st_Tn_lowestBit n (0, [], [y0], σ) = some (tq_rt, [r], [], σ') → W p l e (headSpec w_Tn_lowestBit ({ frames := 1, cells := 0, slots := 0, locals := 21 } : Room)).room s m ([.long b0] : List Value).toArray below meth c H locs 0 0 (MQ below (va_Qi (fun (r' : Int32) (u : tq_S) => r' = r ∧ u = σ') (tq_E dC dI cI cL cZ (wo cI cL cZ ad) A) A) ([.long b0] : List Value).toArray s 0 0 A) (F0 m 0 ls [])) := by
    intro n
    induction n with
    | zero => exact fun _ _ _ _ h => by cases h
    | succ n ih =>
      intro y0 σ H locs ls hP hD hS hl h9
      obtain ⟨q9, hg, hn⟩ := tq_go_s h9 (show ¬ (0 : Nat) = tq_rt by decide)
      replace hg : bk_Tn_lowestBit_0 [] [y0] σ = some q9 := hg
      unfold bk_Tn_lowestBit_0 at hg
      refine lv_lload_n hx hb d_Tn_lowestBit_0 rfl (lv_at hl 0 rfl) ?_
      refine lv_lload_n hx hb d_Tn_lowestBit_1 rfl (lv_at hl 0 rfl) ?_
      refine lv_lneg hx hb d_Tn_lowestBit_2 ?_
      refine lv_land hx hb d_Tn_lowestBit_3 ?_
      refine lv_lconst (v := 1) hx hb d_Tn_lowestBit_4 (by decide) ?_
      refine lv_lsub hx hb d_Tn_lowestBit_5 ?_
      obtain ⟨r2, σ3, f1, hg⟩ := tq_ob_s hg
      refine tq_aI (va_runS (As := [.long ((y0 &&& (-y0)) - 1)]) (rest := []) ⟨hx, hb, hml, hown, hts⟩ (c_Jl_bitCount l dC dI cI cL cZ ad tt H.size σ  ((y0 &&& (-y0)) - 1) r2 σ3 f1) (va_cwS 1 hts (tq_gS tw_401 tw_393 tw_8 tw_394) rfl rfl rfl (by decide +kernel) ⟨Nat.le_of_ble_eq_true rfl, Nat.le_of_ble_eq_true rfl⟩) ⟨tq_bl, (tq_pr hP hK hD hS hA hZ hN)⟩ rfl rfl hl.1 rfl (lv_room (Nat.le_of_ble_eq_true rfl)) d_Tn_lowestBit_6 ⟨Nat.zero_le _, Nat.zero_le _⟩) hD hS hA (fun H locs hP hD hS => ?_)
      exact W.iret (v := r2) hx hb hr (fun t ht hW => ⟨⟨r2, σ3, rfl, tq_grI hg hn, by rw [ht]; exact hP, va_K.moved hW.alike hK, hD⟩, hS.F ht⟩) hS.2.2 d_Tn_lowestBit_9
  exact (key n0) hP hD hS hl h0
noncomputable def bk_Co_find_0 : List Int32 → List Int64 → tq_S → Option tq_C
  | [x1, x2, x3], [], σ => some (3, [x1, x2, x3, 0], [], σ)
  | _, _, _ => none
noncomputable def bk_Co_find_3 : List Int32 → List Int64 → tq_S → Option tq_C
  | [x1, x2, x3, x4], [], σ => if (σ.2.2 0) ≤ x4 then some (tq_rt, [(-1)], [], σ) else tq_gd x4 80 (if ¬ (ia σ 0 x4) = x1 then tq_lj (x4 + 1) (fun v4 => some (3, [x1, x2, x3, v4], [], σ)) else tq_gd x4 80 (if ¬ (ia σ 1 x4) = x2 then tq_lj (x4 + 1) (fun v7 => some (3, [x1, x2, x3, v7], [], σ)) else tq_gd x4 80 (if ¬ (ia σ 2 x4) = x3 then tq_lj (x4 + 1) (fun v10 => some (3, [x1, x2, x3, v10], [], σ)) else some (tq_rt, [x4], [], σ))))
  | _, _, _ => none
noncomputable def st_Co_find (c : tq_C) : Option tq_C := if c.1 = 0 then bk_Co_find_0 c.2.1 c.2.2.1 c.2.2.2 else if c.1 = 3 then bk_Co_find_3 c.2.1 c.2.2.1 c.2.2.2 else none
set_option maxHeartbeats 40000000 in
set_option maxRecDepth 100000 in
theorem c_Co_find (l : Launch) (dC : Nat → ClassId) (dI : Nat → Nat → Nat) (cI cL cZ : ClassId) (ad : Nat → Nat) (tt : Nat) (sz : Nat) (σ : tq_S) (a1 : Int32) (a2 : Int32) (a3 : Int32) (r : Int32) (σ' : tq_S) (hf : tq_fI st_Co_find (0, [a1, a2, a3], [], σ) = some (r, σ')) : Met l y_Co_find w_Co_find ({ frames := 0, cells := 0, slots := 0, locals := 0 } : Room) (va_Pc [.ref (ad 1), .int a1, .int a2, .int a3] (tq_B dC dI cI cL cZ tt (wo cI cL cZ ad σ) sz)) (va_Qi (fun (r' : Int32) (u : tq_S) => r' = r ∧ u = σ') (tq_E dC dI cI cL cZ (wo cI cL cZ ad) (va_A (wo cI cL cZ ad σ) sz)) (va_A (wo cI cL cZ ad σ) sz)) 0 0 (va_A (wo cI cL cZ ad σ) sz) := by
  obtain ⟨n0, h0⟩ := tq_fI_to hf
  refine Met.ofW (cc := prog_2_method_18_code) (maxL := 5) (ret := (some .int)) (by decide) rfl ?_
  intro p e s m args below meth c s₁ B hml hv
  obtain ⟨rfl, hsz, hP, hK, hD0, hZ, hN⟩ := hv
  have hx := B.exec
  have hb := B.bytes
  have hr := B.returns
  have hts : ∀ w ∈ tq_T, w.before _ s = true := fun w h => atoms_spec (ws := w_Co_find) B.pre w (List.mem_cons_of_mem _ h)
  have hown : s.vm.findClass "TableauNodes$Concepts" = some m.cls := findClass_of_methodNamed B.named
  have hlocks := B.notSynchronized
  subst hsz
  have hD := hD0.self (sz := s.heap.size)
  have hS : va_S (va_A (wo cI cL cZ ad σ) s.heap.size) s.heap s.heap [] := va_S.rf
  have hA : ∀ q : Nat, s.heap.size ≤ q → va_A (wo cI cL cZ ad σ) s.heap.size q := fun q h => Or.inr h
  generalize va_A (wo cI cL cZ ad σ) s.heap.size = A at hD hS hA hZ ⊢
  have hl := lv_entry ([.ref (ad 1), .int a1, .int a2, .int a3]) (n := 5) (Nat.le_of_ble_eq_true rfl)
  rw [lg_entry_eq]
  generalize (lg_sl ([.ref (ad 1), .int a1, .int a2, .int a3]) ++ List.replicate (5 - (lg_sl ([.ref (ad 1), .int a1, .int a2, .int a3])).length) Slot.unset).toArray = ls at hl ⊢
  have hl : lv_has ls 5 [(0, .ref (ad 1)), (1, .int a1), (2, .int a2), (3, .int a3)] := hl
  have key : ∀ n : Nat, (∀ {x1 x2 x3 : Int32} {σ : tq_S} {H : Heap} {locs : List Loc} {ls : Array Slot}, va_P (dC, dI) tq_cl (wo cI cL cZ ad σ) H → va_D A (wo cI cL cZ ad σ) → va_S A s.heap H locs → lv_has ls 5 [(0, .ref (ad 1)), (1, .int x1), (2, .int x2), (3, .int x3)] → tq_go st_Co_find n (0, [x1, x2, x3], [], σ) = some (tq_rt, [r], [], σ') → W p l e (headSpec w_Co_find ({ frames := 0, cells := 0, slots := 0, locals := 0 } : Room)).room s m ([.ref (ad 1), .int a1, .int a2, .int a3] : List Value).toArray below meth c H locs 0 0 (MQ below (va_Qi (fun (r' : Int32) (u : tq_S) => r' = r ∧ u = σ') (tq_E dC dI cI cL cZ (wo cI cL cZ ad) A) A) ([.ref (ad 1), .int a1, .int a2, .int a3] : List Value).toArray s 0 0 A) (F0 m 0 ls [])) ∧ (∀ {x1 x2 x3 x4 : Int32} {σ : tq_S} {H : Heap} {locs : List Loc} {ls : Array Slot}, va_P (dC, dI) tq_cl (wo cI cL cZ ad σ) H → va_D A (wo cI cL cZ ad σ) → va_S A s.heap H locs → lv_has ls 5 [(0, .ref (ad 1)), (1, .int x1), (2, .int x2), (3, .int x3), (4, .int x4)] → tq_go st_Co_find n (3, [x1, x2, x3, x4], [], σ) = some (tq_rt, [r], [], σ') → W p l e (headSpec w_Co_find ({ frames := 0, cells := 0, slots := 0, locals := 0 } : Room)).room s m ([.ref (ad 1), .int a1, .int a2, .int a3] : List Value).toArray below meth c H locs 0 0 (MQ below (va_Qi (fun (r' : Int32) (u : tq_S) => r' = r ∧ u = σ') (tq_E dC dI cI cL cZ (wo cI cL cZ ad) A) A) ([.ref (ad 1), .int a1, .int a2, .int a3] : List Value).toArray s 0 0 A) (F0 m 3 ls [])) := by
    intro n
    induction n with
    | zero => exact ⟨(fun _ _ _ _ h => by cases h), (fun _ _ _ _ h => by cases h)⟩
    | succ n ih =>
      refine ⟨?_, ?_⟩
      · intro x1 x2 x3 σ H locs ls hP hD hS hl h9
        obtain ⟨q9, hg, hn⟩ := tq_go_s h9 (show ¬ (0 : Nat) = tq_rt by decide)
        replace hg : bk_Co_find_0 [x1, x2, x3] [] σ = some q9 := hg
        unfold bk_Co_find_0 at hg
        refine lv_iconst (v := 0) hx hb d_Co_find_0 (by decide) ?_
        refine lv_istore (lv' := [(4, .int 0), (0, .ref (ad 1)), (1, .int x1), (2, .int x2), (3, .int x3)]) hx hb d_Co_find_1 hl (by decide) rfl (fun ls hl => ?_)
        exact ih.2 hP hD hS (lv_sub hl [1, 2, 3, 4, 0] rfl) (tq_gi hg hn)
      · intro x1 x2 x3 x4 σ H locs ls hP hD hS hl h9
        obtain ⟨q9, hg, hn⟩ := tq_go_s h9 (show ¬ (3 : Nat) = tq_rt by decide)
        replace hg : bk_Co_find_3 [x1, x2, x3, x4] [] σ = some q9 := hg
        unfold bk_Co_find_3 at hg
        refine lv_iload hx hb d_Co_find_3 (lv_at hl 4 rfl) ?_
        refine lv_aload_n hx hb d_Co_find_5 rfl (lv_at hl 0 rfl) ?_
        refine va_get (D := (dC, dI)) (ci := 1) (v := .int (σ.2.2 0)) (C := "TableauNodes$Concepts") (T := F_Co) (N := 9) hx hb hts in_Co hown hK hP 1 rfl rfl 7 (by decide) (hts _ tw_70) (fun _ h9 => h9) rfl d_Co_find_6 ?_
        refine lv_icmp_ge (tgt := 54) hx hb d_Co_find_9 (by decide) (fun c1 => ?_) (fun c1 => ?_)
        · replace hg := tq_if_t c1 hg
          refine lv_iconst (v := (-1)) hx hb d_Co_find_54 (by decide) ?_
          exact W.iret (v := (-1)) hx hb hr (fun t ht hW => ⟨⟨(-1), σ, rfl, tq_grI hg hn, by rw [ht]; exact hP, va_K.moved hW.alike hK, hD⟩, hS.F ht⟩) hS.2.2 d_Co_find_55
        · replace hg := tq_if_f c1 hg
          refine lv_aload_n hx hb d_Co_find_12 rfl (lv_at hl 0 rfl) ?_
          refine va_get (D := (dC, dI)) (ci := 1) (v := .ref (ad 6)) (C := "TableauNodes$Concepts") (T := F_Co) (N := 9) hx hb hts in_Co hown hK hP 1 rfl rfl 0 (by decide) (hts _ tw_63) (fun _ h9 => h9) rfl d_Co_find_13 ?_
          refine lv_iload hx hb d_Co_find_16 (lv_at hl 4 rfl) ?_
          obtain ⟨g2, hg⟩ := tq_gd_s hg
          refine va_iald hx hb hK hP 6 0 rfl rfl g2 d_Co_find_18 ?_
          refine lv_iload_n hx hb d_Co_find_19 rfl (lv_at hl 1 rfl) ?_
          refine lv_icmp_ne (tgt := 48) hx hb d_Co_find_20 (by decide) (fun c3 => ?_) (fun c3 => ?_)
          · replace hg := tq_if_t c3 hg
            obtain ⟨v4, ev4, hg⟩ := tq_lj_s hg
            refine lv_iinc (v := v4) (lv' := [(4, .int v4), (0, .ref (ad 1)), (1, .int x1), (2, .int x2), (3, .int x3)]) hx hb d_Co_find_48 hl (k := 4) rfl (by rw [ev4]; rfl) (by decide) rfl (fun ls hl => ?_)
            refine lv_goto (tgt := 3) hx hb d_Co_find_51 (by decide) ?_
            exact ih.2 hP hD hS (lv_sub hl [1, 2, 3, 4, 0] rfl) (tq_gi hg hn)
          · replace hg := tq_if_n c3 hg
            refine lv_aload_n hx hb d_Co_find_23 rfl (lv_at hl 0 rfl) ?_
            refine va_get (D := (dC, dI)) (ci := 1) (v := .ref (ad 7)) (C := "TableauNodes$Concepts") (T := F_Co) (N := 9) hx hb hts in_Co hown hK hP 1 rfl rfl 1 (by decide) (hts _ tw_64) (fun _ h9 => h9) rfl d_Co_find_24 ?_
            refine lv_iload hx hb d_Co_find_27 (lv_at hl 4 rfl) ?_
            obtain ⟨g5, hg⟩ := tq_gd_s hg
            refine va_iald hx hb hK hP 7 0 rfl rfl g5 d_Co_find_29 ?_
            refine lv_iload_n hx hb d_Co_find_30 rfl (lv_at hl 2 rfl) ?_
            refine lv_icmp_ne (tgt := 48) hx hb d_Co_find_31 (by decide) (fun c6 => ?_) (fun c6 => ?_)
            · replace hg := tq_if_t c6 hg
              obtain ⟨v7, ev7, hg⟩ := tq_lj_s hg
              refine lv_iinc (v := v7) (lv' := [(4, .int v7), (0, .ref (ad 1)), (1, .int x1), (2, .int x2), (3, .int x3)]) hx hb d_Co_find_48 hl (k := 4) rfl (by rw [ev7]; rfl) (by decide) rfl (fun ls hl => ?_)
              refine lv_goto (tgt := 3) hx hb d_Co_find_51 (by decide) ?_
              exact ih.2 hP hD hS (lv_sub hl [1, 2, 3, 4, 0] rfl) (tq_gi hg hn)
            · replace hg := tq_if_n c6 hg
              refine lv_aload_n hx hb d_Co_find_34 rfl (lv_at hl 0 rfl) ?_
              refine va_get (D := (dC, dI)) (ci := 1) (v := .ref (ad 8)) (C := "TableauNodes$Concepts") (T := F_Co) (N := 9) hx hb hts in_Co hown hK hP 1 rfl rfl 2 (by decide) (hts _ tw_65) (fun _ h9 => h9) rfl d_Co_find_35 ?_
              refine lv_iload hx hb d_Co_find_38 (lv_at hl 4 rfl) ?_
              obtain ⟨g8, hg⟩ := tq_gd_s hg
              refine va_iald hx hb hK hP 8 0 rfl rfl g8 d_Co_find_40 ?_
              refine lv_iload_n hx hb d_Co_find_41 rfl (lv_at hl 3 rfl) ?_
              refine lv_icmp_ne (tgt := 48) hx hb d_Co_find_42 (by decide) (fun c9 => ?_) (fun c9 => ?_)
              · replace hg := tq_if_t c9 hg
                obtain ⟨v10, ev10, hg⟩ := tq_lj_s hg
                refine lv_iinc (v := v10) (lv' := [(4, .int v10), (0, .ref (ad 1)), (1, .int x1), (2, .int x2), (3, .int x3)]) hx hb d_Co_find_48 hl (k := 4) rfl (by rw [ev10]; rfl) (by decide) rfl (fun ls hl => ?_)
                refine lv_goto (tgt := 3) hx hb d_Co_find_51 (by decide) ?_
                exact ih.2 hP hD hS (lv_sub hl [1, 2, 3, 4, 0] rfl) (tq_gi hg hn)
              · replace hg := tq_if_n c9 hg
                refine lv_iload hx hb d_Co_find_45 (lv_at hl 4 rfl) ?_
                exact W.iret (v := x4) hx hb hr (fun t ht hW => ⟨⟨x4, σ, rfl, tq_grI hg hn, by rw [ht]; exact hP, va_K.moved hW.alike hK, hD⟩, hS.F ht⟩) hS.2.2 d_Co_find_47
  exact (key n0).1 hP hD hS hl h0
noncomputable def bk_Co_atomWord_0 : List Int32 → List Int64 → tq_S → Option tq_C
  | [x1, x2], [], σ => if x1 < 0 then some (16, [x1, x2], [], σ) else if 6 ≤ x1 then some (16, [x1, x2], [], σ) else tq_gd x1 6 (some (tq_rt, [], [(tq_lowA x1.toNatClampNeg)], σ))
  | _, _, _ => none
noncomputable def bk_Co_atomWord_16 : List Int32 → List Int64 → tq_S → Option tq_C
  | [x1, x2], [], σ => if ((x2 >>> ((x1 - 6) &&& 31)) &&& 1) = 0 then some (tq_rt, [], [0], σ) else some (tq_rt, [], [(-1)], σ)
  | _, _, _ => none
noncomputable def st_Co_atomWord (c : tq_C) : Option tq_C := if c.1 = 0 then bk_Co_atomWord_0 c.2.1 c.2.2.1 c.2.2.2 else if c.1 = 16 then bk_Co_atomWord_16 c.2.1 c.2.2.1 c.2.2.2 else none
set_option maxHeartbeats 40000000 in
set_option maxRecDepth 100000 in
theorem c_Co_atomWord (l : Launch) (dC : Nat → ClassId) (dI : Nat → Nat → Nat) (cI cL cZ : ClassId) (ad : Nat → Nat) (tt : Nat) (sz : Nat) (σ : tq_S) (a1 : Int32) (a2 : Int32) (r : Int64) (σ' : tq_S) (hf : tq_fL st_Co_atomWord (0, [a1, a2], [], σ) = some (r, σ')) : Met l y_Co_atomWord w_Co_atomWord ({ frames := 0, cells := 0, slots := 0, locals := 0 } : Room) (va_Pc [.ref (ad 1), .int a1, .int a2] (tq_B dC dI cI cL cZ tt (wo cI cL cZ ad σ) sz)) (va_Ql (fun (r' : Int64) (u : tq_S) => r' = r ∧ u = σ') (tq_E dC dI cI cL cZ (wo cI cL cZ ad) (va_A (wo cI cL cZ ad σ) sz)) (va_A (wo cI cL cZ ad σ) sz)) 0 0 (va_A (wo cI cL cZ ad σ) sz) := by
  obtain ⟨n0, h0⟩ := tq_fL_to hf
  refine Met.ofW (cc := prog_2_method_13_code) (maxL := 3) (ret := (some .long)) (by decide) rfl ?_
  intro p e s m args below meth c s₁ B hml hv
  obtain ⟨rfl, hsz, hP, hK, hD0, hZ, hN⟩ := hv
  have hx := B.exec
  have hb := B.bytes
  have hr := B.returns
  have hts : ∀ w ∈ tq_T, w.before _ s = true := fun w h => atoms_spec (ws := w_Co_atomWord) B.pre w (List.mem_cons_of_mem _ h)
  have hown : s.vm.findClass "TableauNodes$Concepts" = some m.cls := findClass_of_methodNamed B.named
  have hlocks := B.notSynchronized
  subst hsz
  have hD := hD0.self (sz := s.heap.size)
  have hS : va_S (va_A (wo cI cL cZ ad σ) s.heap.size) s.heap s.heap [] := va_S.rf
  have hA : ∀ q : Nat, s.heap.size ≤ q → va_A (wo cI cL cZ ad σ) s.heap.size q := fun q h => Or.inr h
  generalize va_A (wo cI cL cZ ad σ) s.heap.size = A at hD hS hA hZ ⊢
  have hl := lv_entry ([.ref (ad 1), .int a1, .int a2]) (n := 3) (Nat.le_of_ble_eq_true rfl)
  rw [lg_entry_eq]
  generalize (lg_sl ([.ref (ad 1), .int a1, .int a2]) ++ List.replicate (3 - (lg_sl ([.ref (ad 1), .int a1, .int a2])).length) Slot.unset).toArray = ls at hl ⊢
  have hl : lv_has ls 3 [(0, .ref (ad 1)), (1, .int a1), (2, .int a2)] := hl
  have key : ∀ n : Nat, (∀ {x1 x2 : Int32} {σ : tq_S} {H : Heap} {locs : List Loc} {ls : Array Slot}, va_P (dC, dI) tq_cl (wo cI cL cZ ad σ) H → va_D A (wo cI cL cZ ad σ) → va_S A s.heap H locs → lv_has ls 3 [(0, .ref (ad 1)), (1, .int x1), (2, .int x2)] → tq_go st_Co_atomWord n (0, [x1, x2], [], σ) = some (tq_rt, [], [r], σ') → W p l e (headSpec w_Co_atomWord ({ frames := 0, cells := 0, slots := 0, locals := 0 } : Room)).room s m ([.ref (ad 1), .int a1, .int a2] : List Value).toArray below meth c H locs 0 0 (MQ below (va_Ql (fun (r' : Int64) (u : tq_S) => r' = r ∧ u = σ') (tq_E dC dI cI cL cZ (wo cI cL cZ ad) A) A) ([.ref (ad 1), .int a1, .int a2] : List Value).toArray s 0 0 A) (F0 m 0 ls [])) ∧ (∀ {x1 x2 : Int32} {σ : tq_S} {H : Heap} {locs : List Loc} {ls : Array Slot}, va_P (dC, dI) tq_cl (wo cI cL cZ ad σ) H → va_D A (wo cI cL cZ ad σ) → va_S A s.heap H locs → lv_has ls 3 [(1, .int x1), (2, .int x2)] → tq_go st_Co_atomWord n (16, [x1, x2], [], σ) = some (tq_rt, [], [r], σ') → W p l e (headSpec w_Co_atomWord ({ frames := 0, cells := 0, slots := 0, locals := 0 } : Room)).room s m ([.ref (ad 1), .int a1, .int a2] : List Value).toArray below meth c H locs 0 0 (MQ below (va_Ql (fun (r' : Int64) (u : tq_S) => r' = r ∧ u = σ') (tq_E dC dI cI cL cZ (wo cI cL cZ ad) A) A) ([.ref (ad 1), .int a1, .int a2] : List Value).toArray s 0 0 A) (F0 m 16 ls [])) := by
    intro n
    induction n with
    | zero => exact ⟨(fun _ _ _ _ h => by cases h), (fun _ _ _ _ h => by cases h)⟩
    | succ n ih =>
      refine ⟨?_, ?_⟩
      · intro x1 x2 σ H locs ls hP hD hS hl h9
        obtain ⟨q9, hg, hn⟩ := tq_go_s h9 (show ¬ (0 : Nat) = tq_rt by decide)
        replace hg : bk_Co_atomWord_0 [x1, x2] [] σ = some q9 := hg
        unfold bk_Co_atomWord_0 at hg
        refine lv_iload_n hx hb d_Co_atomWord_0 rfl (lv_at hl 1 rfl) ?_
        refine lv_if_lt (tgt := 16) hx hb d_Co_atomWord_1 (by decide) (fun c1 => ?_) (fun c1 => ?_)
        · replace hg := tq_if_t c1 hg
          exact ih.2 hP hD hS (lv_sub hl [1, 2] rfl) (tq_gi hg hn)
        · replace hg := tq_if_f c1 hg
          refine lv_iload_n hx hb d_Co_atomWord_4 rfl (lv_at hl 1 rfl) ?_
          refine lv_bipush (v := 6) hx hb d_Co_atomWord_5 (by decide) ?_
          refine lv_icmp_ge (tgt := 16) hx hb d_Co_atomWord_7 (by decide) (fun c2 => ?_) (fun c2 => ?_)
          · replace hg := tq_if_t c2 hg
            exact ih.2 hP hD hS (lv_sub hl [1, 2] rfl) (tq_gi hg hn)
          · replace hg := tq_if_f c2 hg
            refine va_gets hx hb hZ.1 hS hown (hts _ tw_46) (fun _ h9 => h9) d_Co_atomWord_10 ?_
            refine lv_iload_n hx hb d_Co_atomWord_13 rfl (lv_at hl 1 rfl) ?_
            obtain ⟨g3, hg⟩ := tq_gd_s hg
            refine va_tl hx hb hZ.2 hS g3 rfl d_Co_atomWord_14 ?_
            exact W.lret (v := (tq_lowA x1.toNatClampNeg)) hx hb hr (fun t ht hW => ⟨⟨(tq_lowA x1.toNatClampNeg), σ, rfl, tq_grL hg hn, by rw [ht]; exact hP, va_K.moved hW.alike hK, hD⟩, hS.F ht⟩) hS.2.2 d_Co_atomWord_15
      · intro x1 x2 σ H locs ls hP hD hS hl h9
        obtain ⟨q9, hg, hn⟩ := tq_go_s h9 (show ¬ (16 : Nat) = tq_rt by decide)
        replace hg : bk_Co_atomWord_16 [x1, x2] [] σ = some q9 := hg
        unfold bk_Co_atomWord_16 at hg
        refine lv_iload_n hx hb d_Co_atomWord_16 rfl (lv_at hl 1 rfl) ?_
        refine lv_iload_n hx hb d_Co_atomWord_17 rfl (lv_at hl 0 rfl) ?_
        refine lv_bipush (v := 6) hx hb d_Co_atomWord_18 (by decide) ?_
        refine lv_isub hx hb d_Co_atomWord_20 ?_
        refine lv_ishr hx hb d_Co_atomWord_21 ?_
        refine lv_iconst (v := 1) hx hb d_Co_atomWord_22 (by decide) ?_
        refine lv_iand hx hb d_Co_atomWord_23 ?_
        refine lv_if_eq (tgt := 33) hx hb d_Co_atomWord_24 (by decide) (fun c4 => ?_) (fun c4 => ?_)
        · replace hg := tq_if_t c4 hg
          refine lv_lconst (v := 0) hx hb d_Co_atomWord_33 (by decide) ?_
          exact W.lret (v := 0) hx hb hr (fun t ht hW => ⟨⟨0, σ, rfl, tq_grL hg hn, by rw [ht]; exact hP, va_K.moved hW.alike hK, hD⟩, hS.F ht⟩) hS.2.2 d_Co_atomWord_34
        · replace hg := tq_if_f c4 hg
          refine lv_ldc2 (v := (-1)) hx hb hown (hts _ tw_41) d_Co_atomWord_27 ?_
          refine lv_goto (tgt := 34) hx hb d_Co_atomWord_30 (by decide) ?_
          exact W.lret (v := (-1)) hx hb hr (fun t ht hW => ⟨⟨(-1), σ, rfl, tq_grL hg hn, by rw [ht]; exact hP, va_K.moved hW.alike hK, hD⟩, hS.F ht⟩) hS.2.2 d_Co_atomWord_34
  exact (key n0).1 hP hD hS hl h0
noncomputable def bk_Co_word_0 : List Int32 → List Int64 → tq_S → Option tq_C
  | [x1, x2], [], σ => if x1 < 0 then some (26, [x1, x2], [], σ) else if (σ.2.2 0) ≤ x1 then some (26, [x1, x2], [], σ) else if x2 < 0 then some (26, [x1, x2], [], σ) else if 16 ≤ x2 then some (26, [x1, x2], [], σ) else tq_gd ((x1 * 16) + x2) 1280 (some (tq_rt, [], [(la σ 0 ((x1 * 16) + x2))], σ))
  | _, _, _ => none
noncomputable def bk_Co_word_26 : List Int32 → List Int64 → tq_S → Option tq_C
  | [x1, x2], [], σ => some (tq_rt, [], [0], σ)
  | _, _, _ => none
noncomputable def st_Co_word (c : tq_C) : Option tq_C := if c.1 = 0 then bk_Co_word_0 c.2.1 c.2.2.1 c.2.2.2 else if c.1 = 26 then bk_Co_word_26 c.2.1 c.2.2.1 c.2.2.2 else none
set_option maxHeartbeats 40000000 in
set_option maxRecDepth 100000 in
theorem c_Co_word (l : Launch) (dC : Nat → ClassId) (dI : Nat → Nat → Nat) (cI cL cZ : ClassId) (ad : Nat → Nat) (tt : Nat) (sz : Nat) (σ : tq_S) (a1 : Int32) (a2 : Int32) (r : Int64) (σ' : tq_S) (hf : tq_fL st_Co_word (0, [a1, a2], [], σ) = some (r, σ')) : Met l y_Co_word w_Co_word ({ frames := 0, cells := 0, slots := 0, locals := 0 } : Room) (va_Pc [.ref (ad 1), .int a1, .int a2] (tq_B dC dI cI cL cZ tt (wo cI cL cZ ad σ) sz)) (va_Ql (fun (r' : Int64) (u : tq_S) => r' = r ∧ u = σ') (tq_E dC dI cI cL cZ (wo cI cL cZ ad) (va_A (wo cI cL cZ ad σ) sz)) (va_A (wo cI cL cZ ad σ) sz)) 0 0 (va_A (wo cI cL cZ ad σ) sz) := by
  obtain ⟨n0, h0⟩ := tq_fL_to hf
  refine Met.ofW (cc := prog_2_method_11_code) (maxL := 4) (ret := (some .long)) (by decide) rfl ?_
  intro p e s m args below meth c s₁ B hml hv
  obtain ⟨rfl, hsz, hP, hK, hD0, hZ, hN⟩ := hv
  have hx := B.exec
  have hb := B.bytes
  have hr := B.returns
  have hts : ∀ w ∈ tq_T, w.before _ s = true := fun w h => atoms_spec (ws := w_Co_word) B.pre w (List.mem_cons_of_mem _ h)
  have hown : s.vm.findClass "TableauNodes$Concepts" = some m.cls := findClass_of_methodNamed B.named
  have hlocks := B.notSynchronized
  subst hsz
  have hD := hD0.self (sz := s.heap.size)
  have hS : va_S (va_A (wo cI cL cZ ad σ) s.heap.size) s.heap s.heap [] := va_S.rf
  have hA : ∀ q : Nat, s.heap.size ≤ q → va_A (wo cI cL cZ ad σ) s.heap.size q := fun q h => Or.inr h
  generalize va_A (wo cI cL cZ ad σ) s.heap.size = A at hD hS hA hZ ⊢
  have hl := lv_entry ([.ref (ad 1), .int a1, .int a2]) (n := 4) (Nat.le_of_ble_eq_true rfl)
  rw [lg_entry_eq]
  generalize (lg_sl ([.ref (ad 1), .int a1, .int a2]) ++ List.replicate (4 - (lg_sl ([.ref (ad 1), .int a1, .int a2])).length) Slot.unset).toArray = ls at hl ⊢
  have hl : lv_has ls 4 [(0, .ref (ad 1)), (1, .int a1), (2, .int a2)] := hl
  have key : ∀ n : Nat, (∀ {x1 x2 : Int32} {σ : tq_S} {H : Heap} {locs : List Loc} {ls : Array Slot}, va_P (dC, dI) tq_cl (wo cI cL cZ ad σ) H → va_D A (wo cI cL cZ ad σ) → va_S A s.heap H locs → lv_has ls 4 [(0, .ref (ad 1)), (1, .int x1), (2, .int x2)] → tq_go st_Co_word n (0, [x1, x2], [], σ) = some (tq_rt, [], [r], σ') → W p l e (headSpec w_Co_word ({ frames := 0, cells := 0, slots := 0, locals := 0 } : Room)).room s m ([.ref (ad 1), .int a1, .int a2] : List Value).toArray below meth c H locs 0 0 (MQ below (va_Ql (fun (r' : Int64) (u : tq_S) => r' = r ∧ u = σ') (tq_E dC dI cI cL cZ (wo cI cL cZ ad) A) A) ([.ref (ad 1), .int a1, .int a2] : List Value).toArray s 0 0 A) (F0 m 0 ls [])) ∧ (∀ {x1 x2 : Int32} {σ : tq_S} {H : Heap} {locs : List Loc} {ls : Array Slot}, va_P (dC, dI) tq_cl (wo cI cL cZ ad σ) H → va_D A (wo cI cL cZ ad σ) → va_S A s.heap H locs → lv_has ls 4 [(0, .ref (ad 1)), (1, .int x1), (2, .int x2)] → tq_go st_Co_word n (26, [x1, x2], [], σ) = some (tq_rt, [], [r], σ') → W p l e (headSpec w_Co_word ({ frames := 0, cells := 0, slots := 0, locals := 0 } : Room)).room s m ([.ref (ad 1), .int a1, .int a2] : List Value).toArray below meth c H locs 0 0 (MQ below (va_Ql (fun (r' : Int64) (u : tq_S) => r' = r ∧ u = σ') (tq_E dC dI cI cL cZ (wo cI cL cZ ad) A) A) ([.ref (ad 1), .int a1, .int a2] : List Value).toArray s 0 0 A) (F0 m 26 ls [])) := by
    intro n
    induction n with
    | zero => exact ⟨(fun _ _ _ _ h => by cases h), (fun _ _ _ _ h => by cases h)⟩
    | succ n ih =>
      refine ⟨?_, ?_⟩
      · intro x1 x2 σ H locs ls hP hD hS hl h9
        obtain ⟨q9, hg, hn⟩ := tq_go_s h9 (show ¬ (0 : Nat) = tq_rt by decide)
        replace hg : bk_Co_word_0 [x1, x2] [] σ = some q9 := hg
        unfold bk_Co_word_0 at hg
        refine lv_iload_n hx hb d_Co_word_0 rfl (lv_at hl 1 rfl) ?_
        refine lv_if_lt (tgt := 26) hx hb d_Co_word_1 (by decide) (fun c1 => ?_) (fun c1 => ?_)
        · replace hg := tq_if_t c1 hg
          exact ih.2 hP hD hS (lv_sub hl [0, 1, 2] rfl) (tq_gi hg hn)
        · replace hg := tq_if_f c1 hg
          refine lv_iload_n hx hb d_Co_word_4 rfl (lv_at hl 1 rfl) ?_
          refine lv_aload_n hx hb d_Co_word_5 rfl (lv_at hl 0 rfl) ?_
          refine va_get (D := (dC, dI)) (ci := 1) (v := .int (σ.2.2 0)) (C := "TableauNodes$Concepts") (T := F_Co) (N := 9) hx hb hts in_Co hown hK hP 1 rfl rfl 7 (by decide) (hts _ tw_70) (fun _ h9 => h9) rfl d_Co_word_6 ?_
          refine lv_icmp_ge (tgt := 26) hx hb d_Co_word_9 (by decide) (fun c2 => ?_) (fun c2 => ?_)
          · replace hg := tq_if_t c2 hg
            exact ih.2 hP hD hS (lv_sub hl [0, 1, 2] rfl) (tq_gi hg hn)
          · replace hg := tq_if_f c2 hg
            refine lv_iload_n hx hb d_Co_word_12 rfl (lv_at hl 2 rfl) ?_
            refine lv_if_lt (tgt := 26) hx hb d_Co_word_13 (by decide) (fun c3 => ?_) (fun c3 => ?_)
            · replace hg := tq_if_t c3 hg
              exact ih.2 hP hD hS (lv_sub hl [0, 1, 2] rfl) (tq_gi hg hn)
            · replace hg := tq_if_f c3 hg
              refine lv_iload_n hx hb d_Co_word_16 rfl (lv_at hl 2 rfl) ?_
              refine lv_bipush (v := 16) hx hb d_Co_word_17 (by decide) ?_
              refine lv_icmp_ge (tgt := 26) hx hb d_Co_word_19 (by decide) (fun c4 => ?_) (fun c4 => ?_)
              · replace hg := tq_if_t c4 hg
                exact ih.2 hP hD hS (lv_sub hl [0, 1, 2] rfl) (tq_gi hg hn)
              · replace hg := tq_if_f c4 hg
                refine lv_iconst (v := 1) hx hb d_Co_word_22 (by decide) ?_
                refine lv_goto (tgt := 27) hx hb d_Co_word_23 (by decide) ?_
                refine lv_istore_n (lv' := [(3, .int 1), (0, .ref (ad 1)), (1, .int x1), (2, .int x2)]) hx hb d_Co_word_27 rfl hl (by decide) rfl (fun ls hl => ?_)
                refine lv_iload_n hx hb d_Co_word_28 rfl (lv_at hl 0 rfl) ?_
                refine lv_if_eq (tgt := 46) hx hb d_Co_word_29 (by decide) (fun c => False.elim (by revert c; decide)) (fun _ => ?_)
                refine lv_aload_n hx hb d_Co_word_32 rfl (lv_at hl 1 rfl) ?_
                refine va_get (D := (dC, dI)) (ci := 1) (v := .ref (ad 9)) (C := "TableauNodes$Concepts") (T := F_Co) (N := 9) hx hb hts in_Co hown hK hP 1 rfl rfl 3 (by decide) (hts _ tw_66) (fun _ h9 => h9) rfl d_Co_word_33 ?_
                refine lv_iload_n hx hb d_Co_word_36 rfl (lv_at hl 2 rfl) ?_
                refine lv_bipush (v := 16) hx hb d_Co_word_37 (by decide) ?_
                refine lv_imul hx hb d_Co_word_39 ?_
                refine lv_iload_n hx hb d_Co_word_40 rfl (lv_at hl 3 rfl) ?_
                refine lv_iadd hx hb d_Co_word_41 ?_
                obtain ⟨g6, hg⟩ := tq_gd_s hg
                refine va_lald hx hb hK hP 9 1 rfl rfl g6 d_Co_word_42 ?_
                refine lv_goto (tgt := 47) hx hb d_Co_word_43 (by decide) ?_
                exact W.lret (v := (la σ 0 ((x1 * 16) + x2))) hx hb hr (fun t ht hW => ⟨⟨(la σ 0 ((x1 * 16) + x2)), σ, rfl, tq_grL hg hn, by rw [ht]; exact hP, va_K.moved hW.alike hK, hD⟩, hS.F ht⟩) hS.2.2 d_Co_word_47
      · intro x1 x2 σ H locs ls hP hD hS hl h9
        obtain ⟨q9, hg, hn⟩ := tq_go_s h9 (show ¬ (26 : Nat) = tq_rt by decide)
        replace hg : bk_Co_word_26 [x1, x2] [] σ = some q9 := hg
        unfold bk_Co_word_26 at hg
        refine lv_iconst (v := 0) hx hb d_Co_word_26 (by decide) ?_
        refine lv_istore_n (lv' := [(3, .int 0), (0, .ref (ad 1)), (1, .int x1), (2, .int x2)]) hx hb d_Co_word_27 rfl hl (by decide) rfl (fun ls hl => ?_)
        refine lv_iload_n hx hb d_Co_word_28 rfl (lv_at hl 0 rfl) ?_
        refine lv_if_eq (tgt := 46) hx hb d_Co_word_29 (by decide) (fun _ => ?_) (fun c => False.elim (by revert c; decide))
        refine lv_lconst (v := 0) hx hb d_Co_word_46 (by decide) ?_
        exact W.lret (v := 0) hx hb hr (fun t ht hW => ⟨⟨0, σ, rfl, tq_grL hg hn, by rw [ht]; exact hP, va_K.moved hW.alike hK, hD⟩, hS.F ht⟩) hS.2.2 d_Co_word_47
  exact (key n0).1 hP hD hS hl h0
noncomputable def bk_Co_newWord_0 : List Int32 → List Int64 → tq_S → Option tq_C
  | [x1, x2, x3, x4], [], σ => if x1 = 0 then some (tq_rt, [], [(-1)], σ) else if x1 = 1 then some (tq_rt, [], [0], σ) else if x1 = 2 then tq_ob (tq_fL st_Co_atomWord (0, [(σ.2.2 1), x4], [], σ)) (fun r2 σ3 => some (tq_rt, [], [r2], σ3)) else if x1 = 3 then tq_ob (tq_fL st_Co_word (0, [x2, x4], [], σ)) (fun r5 σ6 => some (tq_rt, [], [(r5 ^^^ (-1))], σ6)) else if x1 = 4 then tq_ob (tq_fL st_Co_word (0, [x2, x4], [], σ)) (fun r8 σ9 => tq_ob (tq_fL st_Co_word (0, [x3, x4], [], σ9)) (fun r11 σ12 => some (tq_rt, [], [(r8 &&& r11)], σ12))) else if x1 = 5 then tq_ob (tq_fL st_Co_word (0, [x2, x4], [], σ)) (fun r14 σ15 => tq_ob (tq_fL st_Co_word (0, [x3, x4], [], σ15)) (fun r17 σ18 => some (tq_rt, [], [(r14 ||| r17)], σ18))) else if x1 = 6 then tq_ob (tq_fL st_Co_atomWord (0, [(σ.2.2 1), x4], [], σ)) (fun r20 σ21 => some (tq_rt, [], [r20], σ21)) else if x1 = 7 then tq_ob (tq_fL st_Co_word (0, [x2, x4], [], σ)) (fun r23 σ24 => some (tq_rt, [], [(r23 ^^^ (-1))], σ24)) else some (tq_rt, [], [0], σ)
  | _, _, _ => none
noncomputable def st_Co_newWord (c : tq_C) : Option tq_C := if c.1 = 0 then bk_Co_newWord_0 c.2.1 c.2.2.1 c.2.2.2 else none
set_option maxHeartbeats 40000000 in
set_option maxRecDepth 100000 in
theorem c_Co_newWord (l : Launch) (dC : Nat → ClassId) (dI : Nat → Nat → Nat) (cI cL cZ : ClassId) (ad : Nat → Nat) (tt : Nat) (sz : Nat) (σ : tq_S) (a1 : Int32) (a2 : Int32) (a3 : Int32) (a4 : Int32) (r : Int64) (σ' : tq_S) (hf : tq_fL st_Co_newWord (0, [a1, a2, a3, a4], [], σ) = some (r, σ')) : Met l y_Co_newWord w_Co_newWord ({ frames := 1, cells := 0, slots := 0, locals := 23 } : Room) (va_Pc [.ref (ad 1), .int a1, .int a2, .int a3, .int a4] (tq_B dC dI cI cL cZ tt (wo cI cL cZ ad σ) sz)) (va_Ql (fun (r' : Int64) (u : tq_S) => r' = r ∧ u = σ') (tq_E dC dI cI cL cZ (wo cI cL cZ ad) (va_A (wo cI cL cZ ad σ) sz)) (va_A (wo cI cL cZ ad σ) sz)) 0 0 (va_A (wo cI cL cZ ad σ) sz) := by
  obtain ⟨n0, h0⟩ := tq_fL_to hf
  refine Met.ofW (cc := prog_2_method_20_code) (maxL := 5) (ret := (some .long)) (by decide) rfl ?_
  intro p e s m args below meth c s₁ B hml hv
  obtain ⟨rfl, hsz, hP, hK, hD0, hZ, hN⟩ := hv
  have hx := B.exec
  have hb := B.bytes
  have hr := B.returns
  have hts : ∀ w ∈ tq_T, w.before _ s = true := fun w h => atoms_spec (ws := w_Co_newWord) B.pre w (List.mem_cons_of_mem _ h)
  have hown : s.vm.findClass "TableauNodes$Concepts" = some m.cls := findClass_of_methodNamed B.named
  have hlocks := B.notSynchronized
  subst hsz
  have hD := hD0.self (sz := s.heap.size)
  have hS : va_S (va_A (wo cI cL cZ ad σ) s.heap.size) s.heap s.heap [] := va_S.rf
  have hA : ∀ q : Nat, s.heap.size ≤ q → va_A (wo cI cL cZ ad σ) s.heap.size q := fun q h => Or.inr h
  generalize va_A (wo cI cL cZ ad σ) s.heap.size = A at hD hS hA hZ ⊢
  have hl := lv_entry ([.ref (ad 1), .int a1, .int a2, .int a3, .int a4]) (n := 5) (Nat.le_of_ble_eq_true rfl)
  rw [lg_entry_eq]
  generalize (lg_sl ([.ref (ad 1), .int a1, .int a2, .int a3, .int a4]) ++ List.replicate (5 - (lg_sl ([.ref (ad 1), .int a1, .int a2, .int a3, .int a4])).length) Slot.unset).toArray = ls at hl ⊢
  have hl : lv_has ls 5 [(0, .ref (ad 1)), (1, .int a1), (2, .int a2), (3, .int a3), (4, .int a4)] := hl
  have key : ∀ n : Nat, (∀ {x1 x2 x3 x4 : Int32} {σ : tq_S} {H : Heap} {locs : List Loc} {ls : Array Slot}, va_P (dC, dI) tq_cl (wo cI cL cZ ad σ) H → va_D A (wo cI cL cZ ad σ) → va_S A s.heap H locs → lv_has ls 5 [(0, .ref (ad 1)), (1, .int x1), (2, .int x2), (3, .int x3), (4, .int x4)] → tq_go st_Co_newWord n (0, [x1, x2, x3, x4], [], σ) = some (tq_rt, [], [r], σ') → W p l e (headSpec w_Co_newWord ({ frames := 1, cells := 0, slots := 0, locals := 23 } : Room)).room s m ([.ref (ad 1), .int a1, .int a2, .int a3, .int a4] : List Value).toArray below meth c H locs 0 0 (MQ below (va_Ql (fun (r' : Int64) (u : tq_S) => r' = r ∧ u = σ') (tq_E dC dI cI cL cZ (wo cI cL cZ ad) A) A) ([.ref (ad 1), .int a1, .int a2, .int a3, .int a4] : List Value).toArray s 0 0 A) (F0 m 0 ls [])) := by
    intro n
    induction n with
    | zero => exact fun _ _ _ _ h => by cases h
    | succ n ih =>
      intro x1 x2 x3 x4 σ H locs ls hP hD hS hl h9
      obtain ⟨q9, hg, hn⟩ := tq_go_s h9 (show ¬ (0 : Nat) = tq_rt by decide)
      replace hg : bk_Co_newWord_0 [x1, x2, x3, x4] [] σ = some q9 := hg
      unfold bk_Co_newWord_0 at hg
      refine lv_iload_n hx hb d_Co_newWord_0 rfl (lv_at hl 1 rfl) ?_
      by_cases w25_0 : x1 = 0
      · replace hg := tq_if_t w25_0 hg
        refine lv_tableIn (tgt := 48) hx hb d_Co_newWord_1 (by rw [w25_0]; decide) (by rw [w25_0]; decide) (by rw [w25_0]; rfl) (by decide) ?_
        refine lv_ldc2 (v := (-1)) hx hb hown (hts _ tw_41) d_Co_newWord_48 ?_
        exact W.lret (v := (-1)) hx hb hr (fun t ht hW => ⟨⟨(-1), σ, rfl, tq_grL hg hn, by rw [ht]; exact hP, va_K.moved hW.alike hK, hD⟩, hS.F ht⟩) hS.2.2 d_Co_newWord_51
      replace hg := tq_if_f w25_0 hg
      by_cases w25_1 : x1 = 1
      · replace hg := tq_if_t w25_1 hg
        refine lv_tableIn (tgt := 107) hx hb d_Co_newWord_1 (by rw [w25_1]; decide) (by rw [w25_1]; decide) (by rw [w25_1]; rfl) (by decide) ?_
        refine lv_lconst (v := 0) hx hb d_Co_newWord_107 (by decide) ?_
        exact W.lret (v := 0) hx hb hr (fun t ht hW => ⟨⟨0, σ, rfl, tq_grL hg hn, by rw [ht]; exact hP, va_K.moved hW.alike hK, hD⟩, hS.F ht⟩) hS.2.2 d_Co_newWord_108
      replace hg := tq_if_f w25_1 hg
      by_cases w25_2 : x1 = 2
      · replace hg := tq_if_t w25_2 hg
        refine lv_tableIn (tgt := 52) hx hb d_Co_newWord_1 (by rw [w25_2]; decide) (by rw [w25_2]; decide) (by rw [w25_2]; rfl) (by decide) ?_
        refine lv_aload_n hx hb d_Co_newWord_52 rfl (lv_at hl 0 rfl) ?_
        refine lv_aload_n hx hb d_Co_newWord_53 rfl (lv_at hl 0 rfl) ?_
        refine va_get (D := (dC, dI)) (ci := 1) (v := .int (σ.2.2 1)) (C := "TableauNodes$Concepts") (T := F_Co) (N := 9) hx hb hts in_Co hown hK hP 1 rfl rfl 8 (by decide) (hts _ tw_71) (fun _ h9 => h9) rfl d_Co_newWord_54 ?_
        refine lv_iload hx hb d_Co_newWord_57 (lv_at hl 4 rfl) ?_
        obtain ⟨r2, σ3, f1, hg⟩ := tq_ob_s hg
        refine tq_aL (va_runV (As := [.int (σ.2.2 1), .int x4]) (rest := []) ⟨hx, hb, hml, hown, hts⟩ (c_Co_atomWord l dC dI cI cL cZ ad tt H.size σ (σ.2.2 1) x4  r2 σ3 f1) (cwV 2 hts (tq_gV tw_42 tw_43 tw_44 tw_2 tw_45) rfl rfl rfl (by decide +kernel) ⟨Nat.le_of_ble_eq_true rfl, Nat.le_of_ble_eq_true rfl⟩) ⟨tq_bl, va_recv hK hP (ci := 1) (q0 := 1) rfl rfl, (tq_pr hP hK hD hS hA hZ hN)⟩ rfl rfl hl.1 rfl (lv_room (Nat.le_of_ble_eq_true rfl)) d_Co_newWord_59 ⟨Nat.zero_le _, Nat.zero_le _⟩) hD hS hA (fun H locs hP hD hS => ?_)
        exact W.lret (v := r2) hx hb hr (fun t ht hW => ⟨⟨r2, σ3, rfl, tq_grL hg hn, by rw [ht]; exact hP, va_K.moved hW.alike hK, hD⟩, hS.F ht⟩) hS.2.2 d_Co_newWord_62
      replace hg := tq_if_f w25_2 hg
      by_cases w25_3 : x1 = 3
      · replace hg := tq_if_t w25_3 hg
        refine lv_tableIn (tgt := 63) hx hb d_Co_newWord_1 (by rw [w25_3]; decide) (by rw [w25_3]; decide) (by rw [w25_3]; rfl) (by decide) ?_
        refine lv_aload_n hx hb d_Co_newWord_63 rfl (lv_at hl 0 rfl) ?_
        refine lv_iload_n hx hb d_Co_newWord_64 rfl (lv_at hl 2 rfl) ?_
        refine lv_iload hx hb d_Co_newWord_65 (lv_at hl 4 rfl) ?_
        obtain ⟨r5, σ6, f4, hg⟩ := tq_ob_s hg
        refine tq_aL (va_runV (As := [.int x2, .int x4]) (rest := []) ⟨hx, hb, hml, hown, hts⟩ (c_Co_word l dC dI cI cL cZ ad tt H.size σ x2 x4  r5 σ6 f4) (cwV 2 hts (tq_gV tw_48 tw_49 tw_50 tw_2 tw_51) rfl rfl rfl (by decide +kernel) ⟨Nat.le_of_ble_eq_true rfl, Nat.le_of_ble_eq_true rfl⟩) ⟨tq_bl, va_recv hK hP (ci := 1) (q0 := 1) rfl rfl, (tq_pr hP hK hD hS hA hZ hN)⟩ rfl rfl hl.1 rfl (lv_room (Nat.le_of_ble_eq_true rfl)) d_Co_newWord_67 ⟨Nat.zero_le _, Nat.zero_le _⟩) hD hS hA (fun H locs hP hD hS => ?_)
        refine lv_ldc2 (v := (-1)) hx hb hown (hts _ tw_41) d_Co_newWord_70 ?_
        refine lv_lxor hx hb d_Co_newWord_73 ?_
        exact W.lret (v := (r5 ^^^ (-1))) hx hb hr (fun t ht hW => ⟨⟨(r5 ^^^ (-1)), σ6, rfl, tq_grL hg hn, by rw [ht]; exact hP, va_K.moved hW.alike hK, hD⟩, hS.F ht⟩) hS.2.2 d_Co_newWord_74
      replace hg := tq_if_f w25_3 hg
      by_cases w25_4 : x1 = 4
      · replace hg := tq_if_t w25_4 hg
        refine lv_tableIn (tgt := 75) hx hb d_Co_newWord_1 (by rw [w25_4]; decide) (by rw [w25_4]; decide) (by rw [w25_4]; rfl) (by decide) ?_
        refine lv_aload_n hx hb d_Co_newWord_75 rfl (lv_at hl 0 rfl) ?_
        refine lv_iload_n hx hb d_Co_newWord_76 rfl (lv_at hl 2 rfl) ?_
        refine lv_iload hx hb d_Co_newWord_77 (lv_at hl 4 rfl) ?_
        obtain ⟨r8, σ9, f7, hg⟩ := tq_ob_s hg
        refine tq_aL (va_runV (As := [.int x2, .int x4]) (rest := []) ⟨hx, hb, hml, hown, hts⟩ (c_Co_word l dC dI cI cL cZ ad tt H.size σ x2 x4  r8 σ9 f7) (cwV 2 hts (tq_gV tw_48 tw_49 tw_50 tw_2 tw_51) rfl rfl rfl (by decide +kernel) ⟨Nat.le_of_ble_eq_true rfl, Nat.le_of_ble_eq_true rfl⟩) ⟨tq_bl, va_recv hK hP (ci := 1) (q0 := 1) rfl rfl, (tq_pr hP hK hD hS hA hZ hN)⟩ rfl rfl hl.1 rfl (lv_room (Nat.le_of_ble_eq_true rfl)) d_Co_newWord_79 ⟨Nat.zero_le _, Nat.zero_le _⟩) hD hS hA (fun H locs hP hD hS => ?_)
        refine lv_aload_n hx hb d_Co_newWord_82 rfl (lv_at hl 0 rfl) ?_
        refine lv_iload_n hx hb d_Co_newWord_83 rfl (lv_at hl 3 rfl) ?_
        refine lv_iload hx hb d_Co_newWord_84 (lv_at hl 4 rfl) ?_
        obtain ⟨r11, σ12, f10, hg⟩ := tq_ob_s hg
        refine tq_aL (va_runV (As := [.int x3, .int x4]) (rest := [.long r8]) ⟨hx, hb, hml, hown, hts⟩ (c_Co_word l dC dI cI cL cZ ad tt H.size σ9 x3 x4  r11 σ12 f10) (cwV 2 hts (tq_gV tw_48 tw_49 tw_50 tw_2 tw_51) rfl rfl rfl (by decide +kernel) ⟨Nat.le_of_ble_eq_true rfl, Nat.le_of_ble_eq_true rfl⟩) ⟨tq_bl, va_recv hK hP (ci := 1) (q0 := 1) rfl rfl, (tq_pr hP hK hD hS hA hZ hN)⟩ rfl rfl hl.1 rfl (lv_room (Nat.le_of_ble_eq_true rfl)) d_Co_newWord_86 ⟨Nat.zero_le _, Nat.zero_le _⟩) hD hS hA (fun H locs hP hD hS => ?_)
        refine lv_land hx hb d_Co_newWord_89 ?_
        exact W.lret (v := (r8 &&& r11)) hx hb hr (fun t ht hW => ⟨⟨(r8 &&& r11), σ12, rfl, tq_grL hg hn, by rw [ht]; exact hP, va_K.moved hW.alike hK, hD⟩, hS.F ht⟩) hS.2.2 d_Co_newWord_90
      replace hg := tq_if_f w25_4 hg
      by_cases w25_5 : x1 = 5
      · replace hg := tq_if_t w25_5 hg
        refine lv_tableIn (tgt := 91) hx hb d_Co_newWord_1 (by rw [w25_5]; decide) (by rw [w25_5]; decide) (by rw [w25_5]; rfl) (by decide) ?_
        refine lv_aload_n hx hb d_Co_newWord_91 rfl (lv_at hl 0 rfl) ?_
        refine lv_iload_n hx hb d_Co_newWord_92 rfl (lv_at hl 2 rfl) ?_
        refine lv_iload hx hb d_Co_newWord_93 (lv_at hl 4 rfl) ?_
        obtain ⟨r14, σ15, f13, hg⟩ := tq_ob_s hg
        refine tq_aL (va_runV (As := [.int x2, .int x4]) (rest := []) ⟨hx, hb, hml, hown, hts⟩ (c_Co_word l dC dI cI cL cZ ad tt H.size σ x2 x4  r14 σ15 f13) (cwV 2 hts (tq_gV tw_48 tw_49 tw_50 tw_2 tw_51) rfl rfl rfl (by decide +kernel) ⟨Nat.le_of_ble_eq_true rfl, Nat.le_of_ble_eq_true rfl⟩) ⟨tq_bl, va_recv hK hP (ci := 1) (q0 := 1) rfl rfl, (tq_pr hP hK hD hS hA hZ hN)⟩ rfl rfl hl.1 rfl (lv_room (Nat.le_of_ble_eq_true rfl)) d_Co_newWord_95 ⟨Nat.zero_le _, Nat.zero_le _⟩) hD hS hA (fun H locs hP hD hS => ?_)
        refine lv_aload_n hx hb d_Co_newWord_98 rfl (lv_at hl 0 rfl) ?_
        refine lv_iload_n hx hb d_Co_newWord_99 rfl (lv_at hl 3 rfl) ?_
        refine lv_iload hx hb d_Co_newWord_100 (lv_at hl 4 rfl) ?_
        obtain ⟨r17, σ18, f16, hg⟩ := tq_ob_s hg
        refine tq_aL (va_runV (As := [.int x3, .int x4]) (rest := [.long r14]) ⟨hx, hb, hml, hown, hts⟩ (c_Co_word l dC dI cI cL cZ ad tt H.size σ15 x3 x4  r17 σ18 f16) (cwV 2 hts (tq_gV tw_48 tw_49 tw_50 tw_2 tw_51) rfl rfl rfl (by decide +kernel) ⟨Nat.le_of_ble_eq_true rfl, Nat.le_of_ble_eq_true rfl⟩) ⟨tq_bl, va_recv hK hP (ci := 1) (q0 := 1) rfl rfl, (tq_pr hP hK hD hS hA hZ hN)⟩ rfl rfl hl.1 rfl (lv_room (Nat.le_of_ble_eq_true rfl)) d_Co_newWord_102 ⟨Nat.zero_le _, Nat.zero_le _⟩) hD hS hA (fun H locs hP hD hS => ?_)
        refine lv_lor hx hb d_Co_newWord_105 ?_
        exact W.lret (v := (r14 ||| r17)) hx hb hr (fun t ht hW => ⟨⟨(r14 ||| r17), σ18, rfl, tq_grL hg hn, by rw [ht]; exact hP, va_K.moved hW.alike hK, hD⟩, hS.F ht⟩) hS.2.2 d_Co_newWord_106
      replace hg := tq_if_f w25_5 hg
      by_cases w25_6 : x1 = 6
      · replace hg := tq_if_t w25_6 hg
        refine lv_tableIn (tgt := 52) hx hb d_Co_newWord_1 (by rw [w25_6]; decide) (by rw [w25_6]; decide) (by rw [w25_6]; rfl) (by decide) ?_
        refine lv_aload_n hx hb d_Co_newWord_52 rfl (lv_at hl 0 rfl) ?_
        refine lv_aload_n hx hb d_Co_newWord_53 rfl (lv_at hl 0 rfl) ?_
        refine va_get (D := (dC, dI)) (ci := 1) (v := .int (σ.2.2 1)) (C := "TableauNodes$Concepts") (T := F_Co) (N := 9) hx hb hts in_Co hown hK hP 1 rfl rfl 8 (by decide) (hts _ tw_71) (fun _ h9 => h9) rfl d_Co_newWord_54 ?_
        refine lv_iload hx hb d_Co_newWord_57 (lv_at hl 4 rfl) ?_
        obtain ⟨r20, σ21, f19, hg⟩ := tq_ob_s hg
        refine tq_aL (va_runV (As := [.int (σ.2.2 1), .int x4]) (rest := []) ⟨hx, hb, hml, hown, hts⟩ (c_Co_atomWord l dC dI cI cL cZ ad tt H.size σ (σ.2.2 1) x4  r20 σ21 f19) (cwV 2 hts (tq_gV tw_42 tw_43 tw_44 tw_2 tw_45) rfl rfl rfl (by decide +kernel) ⟨Nat.le_of_ble_eq_true rfl, Nat.le_of_ble_eq_true rfl⟩) ⟨tq_bl, va_recv hK hP (ci := 1) (q0 := 1) rfl rfl, (tq_pr hP hK hD hS hA hZ hN)⟩ rfl rfl hl.1 rfl (lv_room (Nat.le_of_ble_eq_true rfl)) d_Co_newWord_59 ⟨Nat.zero_le _, Nat.zero_le _⟩) hD hS hA (fun H locs hP hD hS => ?_)
        exact W.lret (v := r20) hx hb hr (fun t ht hW => ⟨⟨r20, σ21, rfl, tq_grL hg hn, by rw [ht]; exact hP, va_K.moved hW.alike hK, hD⟩, hS.F ht⟩) hS.2.2 d_Co_newWord_62
      replace hg := tq_if_f w25_6 hg
      by_cases w25_7 : x1 = 7
      · replace hg := tq_if_t w25_7 hg
        refine lv_tableIn (tgt := 63) hx hb d_Co_newWord_1 (by rw [w25_7]; decide) (by rw [w25_7]; decide) (by rw [w25_7]; rfl) (by decide) ?_
        refine lv_aload_n hx hb d_Co_newWord_63 rfl (lv_at hl 0 rfl) ?_
        refine lv_iload_n hx hb d_Co_newWord_64 rfl (lv_at hl 2 rfl) ?_
        refine lv_iload hx hb d_Co_newWord_65 (lv_at hl 4 rfl) ?_
        obtain ⟨r23, σ24, f22, hg⟩ := tq_ob_s hg
        refine tq_aL (va_runV (As := [.int x2, .int x4]) (rest := []) ⟨hx, hb, hml, hown, hts⟩ (c_Co_word l dC dI cI cL cZ ad tt H.size σ x2 x4  r23 σ24 f22) (cwV 2 hts (tq_gV tw_48 tw_49 tw_50 tw_2 tw_51) rfl rfl rfl (by decide +kernel) ⟨Nat.le_of_ble_eq_true rfl, Nat.le_of_ble_eq_true rfl⟩) ⟨tq_bl, va_recv hK hP (ci := 1) (q0 := 1) rfl rfl, (tq_pr hP hK hD hS hA hZ hN)⟩ rfl rfl hl.1 rfl (lv_room (Nat.le_of_ble_eq_true rfl)) d_Co_newWord_67 ⟨Nat.zero_le _, Nat.zero_le _⟩) hD hS hA (fun H locs hP hD hS => ?_)
        refine lv_ldc2 (v := (-1)) hx hb hown (hts _ tw_41) d_Co_newWord_70 ?_
        refine lv_lxor hx hb d_Co_newWord_73 ?_
        exact W.lret (v := (r23 ^^^ (-1))) hx hb hr (fun t ht hW => ⟨⟨(r23 ^^^ (-1)), σ24, rfl, tq_grL hg hn, by rw [ht]; exact hP, va_K.moved hW.alike hK, hD⟩, hS.F ht⟩) hS.2.2 d_Co_newWord_74
      replace hg := tq_if_f w25_7 hg
      refine lv_tableOut (tgt := 107) hx hb d_Co_newWord_1 (by have q0 := tq_ni w25_0 (a := 0) (by decide); have q1 := tq_ni w25_1 (a := 1) (by decide); have q2 := tq_ni w25_2 (a := 2) (by decide); have q3 := tq_ni w25_3 (a := 3) (by decide); have q4 := tq_ni w25_4 (a := 4) (by decide); have q5 := tq_ni w25_5 (a := 5) (by decide); have q6 := tq_ni w25_6 (a := 6) (by decide); have q7 := tq_ni w25_7 (a := 7) (by decide); omega) (by decide) ?_
      refine lv_lconst (v := 0) hx hb d_Co_newWord_107 (by decide) ?_
      exact W.lret (v := 0) hx hb hr (fun t ht hW => ⟨⟨0, σ, rfl, tq_grL hg hn, by rw [ht]; exact hP, va_K.moved hW.alike hK, hD⟩, hS.F ht⟩) hS.2.2 d_Co_newWord_108
  exact (key n0) hP hD hS hl h0
noncomputable def bk_Co_noteInner_0 : List Int32 → List Int64 → tq_S → Option tq_C
  | [x1, x2], [], σ => some (2, [x1, x2, 0], [], σ)
  | _, _, _ => none
noncomputable def bk_Co_noteInner_2 : List Int32 → List Int64 → tq_S → Option tq_C
  | [x1, x2, x3], [], σ => if 16 ≤ x3 then some (tq_rt, [], [], σ) else tq_ob (tq_fL st_Co_word (0, [x2, x3], [], σ)) (fun r3 σ4 => tq_gd ((x1 * 16) + x3) 160 (tq_lj (lput σ4 1 ((x1 * 16) + x3).toNatClampNeg r3) (fun σ6 => some (32, [x1, x2, x3, 0], [r3], σ6))))
  | _, _, _ => none
noncomputable def bk_Co_noteInner_32 : List Int32 → List Int64 → tq_S → Option tq_C
  | [x1, x2, x3, x6], [y4], σ => if 64 ≤ x6 then tq_lj (x3 + 1) (fun v8 => some (2, [x1, x2, v8], [], σ)) else tq_gd ((x3 * 64) + x6) 1024 (tq_ob (tq_fI st_Tn_hasBit (0, [x6], [y4], σ)) (fun r11 σ12 => if r11 = 0 then tq_gd ((x3 * 64) + x6) 1024 (tq_lj (iput σ12 4 ((x3 * 64) + x6).toNatClampNeg ((ia σ 4 ((x3 * 64) + x6)) ||| 0)) (fun σ15 => tq_lj (x6 + 1) (fun v16 => some (32, [x1, x2, x3, v16], [y4], σ15)))) else tq_gd ((x3 * 64) + x6) 1024 (tq_lj (iput σ12 4 ((x3 * 64) + x6).toNatClampNeg ((ia σ 4 ((x3 * 64) + x6)) ||| (1 <<< (x1 &&& 31)))) (fun σ18 => tq_lj (x6 + 1) (fun v19 => some (32, [x1, x2, x3, v19], [y4], σ18))))))
  | _, _, _ => none
noncomputable def st_Co_noteInner (c : tq_C) : Option tq_C := if c.1 = 0 then bk_Co_noteInner_0 c.2.1 c.2.2.1 c.2.2.2 else if c.1 = 2 then bk_Co_noteInner_2 c.2.1 c.2.2.1 c.2.2.2 else if c.1 = 32 then bk_Co_noteInner_32 c.2.1 c.2.2.1 c.2.2.2 else none
set_option maxHeartbeats 40000000 in
set_option maxRecDepth 100000 in
theorem c_Co_noteInner (l : Launch) (dC : Nat → ClassId) (dI : Nat → Nat → Nat) (cI cL cZ : ClassId) (ad : Nat → Nat) (tt : Nat) (sz : Nat) (σ : tq_S) (a1 : Int32) (a2 : Int32) (σ' : tq_S) (hf : tq_fV st_Co_noteInner (0, [a1, a2], [], σ) = some ((), σ')) : Met l y_Co_noteInner w_Co_noteInner ({ frames := 1, cells := 0, slots := 0, locals := 23 } : Room) (va_Pc [.ref (ad 1), .int a1, .int a2] (tq_B dC dI cI cL cZ tt (wo cI cL cZ ad σ) sz)) (va_Qv (fun (u : tq_S) => u = σ') (tq_E dC dI cI cL cZ (wo cI cL cZ ad) (va_A (wo cI cL cZ ad σ) sz)) (va_A (wo cI cL cZ ad σ) sz)) 0 0 (va_A (wo cI cL cZ ad σ) sz) := by
  obtain ⟨n0, h0⟩ := tq_fV_to hf
  refine Met.ofW (cc := prog_2_method_22_code) (maxL := 7) (ret := none) (by decide) rfl ?_
  intro p e s m args below meth c s₁ B hml hv
  obtain ⟨rfl, hsz, hP, hK, hD0, hZ, hN⟩ := hv
  have hx := B.exec
  have hb := B.bytes
  have hr := B.returns
  have hts : ∀ w ∈ tq_T, w.before _ s = true := fun w h => atoms_spec (ws := w_Co_noteInner) B.pre w (List.mem_cons_of_mem _ h)
  have hown : s.vm.findClass "TableauNodes$Concepts" = some m.cls := findClass_of_methodNamed B.named
  have hlocks := B.notSynchronized
  subst hsz
  have hD := hD0.self (sz := s.heap.size)
  have hS : va_S (va_A (wo cI cL cZ ad σ) s.heap.size) s.heap s.heap [] := va_S.rf
  have hA : ∀ q : Nat, s.heap.size ≤ q → va_A (wo cI cL cZ ad σ) s.heap.size q := fun q h => Or.inr h
  generalize va_A (wo cI cL cZ ad σ) s.heap.size = A at hD hS hA hZ ⊢
  have hl := lv_entry ([.ref (ad 1), .int a1, .int a2]) (n := 7) (Nat.le_of_ble_eq_true rfl)
  rw [lg_entry_eq]
  generalize (lg_sl ([.ref (ad 1), .int a1, .int a2]) ++ List.replicate (7 - (lg_sl ([.ref (ad 1), .int a1, .int a2])).length) Slot.unset).toArray = ls at hl ⊢
  have hl : lv_has ls 7 [(0, .ref (ad 1)), (1, .int a1), (2, .int a2)] := hl
  have key : ∀ n : Nat, (∀ {x1 x2 : Int32} {σ : tq_S} {H : Heap} {locs : List Loc} {ls : Array Slot}, va_P (dC, dI) tq_cl (wo cI cL cZ ad σ) H → va_D A (wo cI cL cZ ad σ) → va_S A s.heap H locs → lv_has ls 7 [(0, .ref (ad 1)), (1, .int x1), (2, .int x2)] → tq_go st_Co_noteInner n (0, [x1, x2], [], σ) = some (tq_rt, [], [], σ') → W p l e (headSpec w_Co_noteInner ({ frames := 1, cells := 0, slots := 0, locals := 23 } : Room)).room s m ([.ref (ad 1), .int a1, .int a2] : List Value).toArray below meth c H locs 0 0 (MQ below (va_Qv (fun (u : tq_S) => u = σ') (tq_E dC dI cI cL cZ (wo cI cL cZ ad) A) A) ([.ref (ad 1), .int a1, .int a2] : List Value).toArray s 0 0 A) (F0 m 0 ls [])) ∧ (∀ {x1 x2 x3 : Int32} {σ : tq_S} {H : Heap} {locs : List Loc} {ls : Array Slot}, va_P (dC, dI) tq_cl (wo cI cL cZ ad σ) H → va_D A (wo cI cL cZ ad σ) → va_S A s.heap H locs → lv_has ls 7 [(0, .ref (ad 1)), (1, .int x1), (2, .int x2), (3, .int x3)] → tq_go st_Co_noteInner n (2, [x1, x2, x3], [], σ) = some (tq_rt, [], [], σ') → W p l e (headSpec w_Co_noteInner ({ frames := 1, cells := 0, slots := 0, locals := 23 } : Room)).room s m ([.ref (ad 1), .int a1, .int a2] : List Value).toArray below meth c H locs 0 0 (MQ below (va_Qv (fun (u : tq_S) => u = σ') (tq_E dC dI cI cL cZ (wo cI cL cZ ad) A) A) ([.ref (ad 1), .int a1, .int a2] : List Value).toArray s 0 0 A) (F0 m 2 ls [])) ∧ (∀ {x1 x2 x3 x6 : Int32} {y4 : Int64} {σ : tq_S} {H : Heap} {locs : List Loc} {ls : Array Slot}, va_P (dC, dI) tq_cl (wo cI cL cZ ad σ) H → va_D A (wo cI cL cZ ad σ) → va_S A s.heap H locs → lv_has ls 7 [(0, .ref (ad 1)), (1, .int x1), (2, .int x2), (3, .int x3), (4, .long y4), (6, .int x6)] → tq_go st_Co_noteInner n (32, [x1, x2, x3, x6], [y4], σ) = some (tq_rt, [], [], σ') → W p l e (headSpec w_Co_noteInner ({ frames := 1, cells := 0, slots := 0, locals := 23 } : Room)).room s m ([.ref (ad 1), .int a1, .int a2] : List Value).toArray below meth c H locs 0 0 (MQ below (va_Qv (fun (u : tq_S) => u = σ') (tq_E dC dI cI cL cZ (wo cI cL cZ ad) A) A) ([.ref (ad 1), .int a1, .int a2] : List Value).toArray s 0 0 A) (F0 m 32 ls [])) := by
    intro n
    induction n with
    | zero => exact ⟨(fun _ _ _ _ h => by cases h), (fun _ _ _ _ h => by cases h), (fun _ _ _ _ h => by cases h)⟩
    | succ n ih =>
      refine ⟨?_, ?_, ?_⟩
      · intro x1 x2 σ H locs ls hP hD hS hl h9
        obtain ⟨q9, hg, hn⟩ := tq_go_s h9 (show ¬ (0 : Nat) = tq_rt by decide)
        replace hg : bk_Co_noteInner_0 [x1, x2] [] σ = some q9 := hg
        unfold bk_Co_noteInner_0 at hg
        refine lv_iconst (v := 0) hx hb d_Co_noteInner_0 (by decide) ?_
        refine lv_istore_n (lv' := [(3, .int 0), (0, .ref (ad 1)), (1, .int x1), (2, .int x2)]) hx hb d_Co_noteInner_1 rfl hl (by decide) rfl (fun ls hl => ?_)
        exact ih.2.1 hP hD hS (lv_sub hl [1, 2, 3, 0] rfl) (tq_gi hg hn)
      · intro x1 x2 x3 σ H locs ls hP hD hS hl h9
        obtain ⟨q9, hg, hn⟩ := tq_go_s h9 (show ¬ (2 : Nat) = tq_rt by decide)
        replace hg : bk_Co_noteInner_2 [x1, x2, x3] [] σ = some q9 := hg
        unfold bk_Co_noteInner_2 at hg
        refine lv_iload_n hx hb d_Co_noteInner_2 rfl (lv_at hl 3 rfl) ?_
        refine lv_bipush (v := 16) hx hb d_Co_noteInner_3 (by decide) ?_
        refine lv_icmp_ge (tgt := 83) hx hb d_Co_noteInner_5 (by decide) (fun c1 => ?_) (fun c1 => ?_)
        · replace hg := tq_if_t c1 hg
          exact W.vret hx hb hr (fun t ht hW => ⟨⟨σ, rfl, tq_grV hg hn, by rw [ht]; exact hP, va_K.moved hW.alike hK, hD⟩, hS.F ht⟩) hS.2.2 d_Co_noteInner_83
        · replace hg := tq_if_f c1 hg
          refine lv_aload_n hx hb d_Co_noteInner_8 rfl (lv_at hl 0 rfl) ?_
          refine lv_iload_n hx hb d_Co_noteInner_9 rfl (lv_at hl 2 rfl) ?_
          refine lv_iload_n hx hb d_Co_noteInner_10 rfl (lv_at hl 3 rfl) ?_
          obtain ⟨r3, σ4, f2, hg⟩ := tq_ob_s hg
          refine tq_aL (va_runV (As := [.int x2, .int x3]) (rest := []) ⟨hx, hb, hml, hown, hts⟩ (c_Co_word l dC dI cI cL cZ ad tt H.size σ x2 x3  r3 σ4 f2) (cwV 2 hts (tq_gV tw_48 tw_49 tw_50 tw_2 tw_51) rfl rfl rfl (by decide +kernel) ⟨Nat.le_of_ble_eq_true rfl, Nat.le_of_ble_eq_true rfl⟩) ⟨tq_bl, va_recv hK hP (ci := 1) (q0 := 1) rfl rfl, (tq_pr hP hK hD hS hA hZ hN)⟩ rfl rfl hl.1 rfl (lv_room (Nat.le_of_ble_eq_true rfl)) d_Co_noteInner_11 ⟨Nat.zero_le _, Nat.zero_le _⟩) hD hS hA (fun H locs hP hD hS => ?_)
          refine lv_lstore (lv' := [(4, .long r3), (0, .ref (ad 1)), (1, .int x1), (2, .int x2), (3, .int x3)]) hx hb d_Co_noteInner_14 hl (by decide) rfl (fun ls hl => ?_)
          refine lv_aload_n hx hb d_Co_noteInner_16 rfl (lv_at hl 1 rfl) ?_
          refine va_get (D := (dC, dI)) (ci := 1) (v := .ref (ad 11)) (C := "TableauNodes$Concepts") (T := F_Co) (N := 9) hx hb hts in_Co hown hK hP 1 rfl rfl 5 (by decide) (hts _ tw_68) (fun _ h9 => h9) rfl d_Co_noteInner_17 ?_
          refine lv_iload_n hx hb d_Co_noteInner_20 rfl (lv_at hl 2 rfl) ?_
          refine lv_bipush (v := 16) hx hb d_Co_noteInner_21 (by decide) ?_
          refine lv_imul hx hb d_Co_noteInner_23 ?_
          refine lv_iload_n hx hb d_Co_noteInner_24 rfl (lv_at hl 4 rfl) ?_
          refine lv_iadd hx hb d_Co_noteInner_25 ?_
          refine lv_lload hx hb d_Co_noteInner_26 (lv_at hl 0 rfl) ?_
          obtain ⟨g5, hg⟩ := tq_gd_s hg
          refine va_last hx hb hK hP hD hS 11 1 rfl rfl g5 d_Co_noteInner_28 (fun H locs hP hD hS => ?_)
          obtain ⟨σ6, eσ6, hg⟩ := tq_lj_s hg
          replace hP : va_P (dC, dI) tq_cl (wo cI cL cZ ad σ6) H := by rw [eσ6, ← ws_l1]; exact hP
          replace hD : va_D A (wo cI cL cZ ad σ6) := by rw [eσ6, ← ws_l1]; exact hD
          refine lv_iconst (v := 0) hx hb d_Co_noteInner_29 (by decide) ?_
          refine lv_istore (lv' := [(6, .int 0), (4, .long r3), (0, .ref (ad 1)), (1, .int x1), (2, .int x2), (3, .int x3)]) hx hb d_Co_noteInner_30 hl (by decide) rfl (fun ls hl => ?_)
          exact ih.2.2 hP hD hS (lv_sub hl [2, 3, 4, 5, 1, 0] rfl) (tq_gi hg hn)
      · intro x1 x2 x3 x6 y4 σ H locs ls hP hD hS hl h9
        obtain ⟨q9, hg, hn⟩ := tq_go_s h9 (show ¬ (32 : Nat) = tq_rt by decide)
        replace hg : bk_Co_noteInner_32 [x1, x2, x3, x6] [y4] σ = some q9 := hg
        unfold bk_Co_noteInner_32 at hg
        refine lv_iload hx hb d_Co_noteInner_32 (lv_at hl 5 rfl) ?_
        refine lv_bipush (v := 64) hx hb d_Co_noteInner_34 (by decide) ?_
        refine lv_icmp_ge (tgt := 77) hx hb d_Co_noteInner_36 (by decide) (fun c7 => ?_) (fun c7 => ?_)
        · replace hg := tq_if_t c7 hg
          obtain ⟨v8, ev8, hg⟩ := tq_lj_s hg
          refine lv_iinc (v := v8) (lv' := [(3, .int v8), (0, .ref (ad 1)), (1, .int x1), (2, .int x2), (4, .long y4), (6, .int x6)]) hx hb d_Co_noteInner_77 hl (k := 3) rfl (by rw [ev8]; rfl) (by decide) rfl (fun ls hl => ?_)
          refine lv_goto (tgt := 2) hx hb d_Co_noteInner_80 (by decide) ?_
          exact ih.2.1 hP hD hS (lv_sub hl [1, 2, 3, 0] rfl) (tq_gi hg hn)
        · replace hg := tq_if_f c7 hg
          refine lv_aload_n hx hb d_Co_noteInner_39 rfl (lv_at hl 0 rfl) ?_
          refine va_get (D := (dC, dI)) (ci := 1) (v := .ref (ad 12)) (C := "TableauNodes$Concepts") (T := F_Co) (N := 9) hx hb hts in_Co hown hK hP 1 rfl rfl 6 (by decide) (hts _ tw_69) (fun _ h9 => h9) rfl d_Co_noteInner_40 ?_
          refine lv_iload_n hx hb d_Co_noteInner_43 rfl (lv_at hl 3 rfl) ?_
          refine lv_bipush (v := 64) hx hb d_Co_noteInner_44 (by decide) ?_
          refine lv_imul hx hb d_Co_noteInner_46 ?_
          refine lv_iload hx hb d_Co_noteInner_47 (lv_at hl 5 rfl) ?_
          refine lv_iadd hx hb d_Co_noteInner_49 ?_
          refine lv_dup2_11 hx hb d_Co_noteInner_50 rfl rfl ?_
          obtain ⟨g9, hg⟩ := tq_gd_s hg
          refine va_iald hx hb hK hP 12 0 rfl rfl g9 d_Co_noteInner_51 ?_
          refine lv_lload hx hb d_Co_noteInner_52 (lv_at hl 4 rfl) ?_
          refine lv_iload hx hb d_Co_noteInner_54 (lv_at hl 5 rfl) ?_
          obtain ⟨r11, σ12, f10, hg⟩ := tq_ob_s hg
          refine tq_aI (va_runSN (As := [.long y4, .int x6]) (rest := [.int (ia σ 4 ((x3 * 64) + x6)), .int ((x3 * 64) + x6), .ref (ad 12)]) ⟨hx, hb, hml, hown, hts⟩ (c_Tn_hasBit l dC dI cI cL cZ ad tt H.size σ x6 y4 r11 σ12 f10) ⟨va_cnB 2 hts (tq_gC tw_62) rfl rfl rfl (hN _ (List.mem_of_getElem? (i := 0) rfl)) (hts _ tw_1) (by decide +kernel) ⟨Nat.le_of_ble_eq_true rfl, Nat.le_of_ble_eq_true rfl⟩, hts _ tw_61, trivial⟩ ⟨tq_bl, (tq_pr hP hK hD hS hA hZ hN)⟩ rfl rfl hl.1 rfl (lv_room (Nat.le_of_ble_eq_true rfl)) d_Co_noteInner_56 ⟨Nat.zero_le _, Nat.zero_le _⟩) hD hS hA (fun H locs hP hD hS => ?_)
          refine lv_if_eq (tgt := 68) hx hb d_Co_noteInner_59 (by decide) (fun c13 => ?_) (fun c13 => ?_)
          · replace hg := tq_if_t c13 hg
            refine lv_iconst (v := 0) hx hb d_Co_noteInner_68 (by decide) ?_
            refine lv_ior hx hb d_Co_noteInner_69 ?_
            obtain ⟨g14, hg⟩ := tq_gd_s hg
            refine va_iast hx hb hK hP hD hS 12 0 rfl rfl g14 d_Co_noteInner_70 (fun H locs hP hD hS => ?_)
            obtain ⟨σ15, eσ15, hg⟩ := tq_lj_s hg
            replace hP : va_P (dC, dI) tq_cl (wo cI cL cZ ad σ15) H := by rw [eσ15, ← ws_i4]; exact hP
            replace hD : va_D A (wo cI cL cZ ad σ15) := by rw [eσ15, ← ws_i4]; exact hD
            obtain ⟨v16, ev16, hg⟩ := tq_lj_s hg
            refine lv_iinc (v := v16) (lv' := [(6, .int v16), (0, .ref (ad 1)), (1, .int x1), (2, .int x2), (3, .int x3), (4, .long y4)]) hx hb d_Co_noteInner_71 hl (k := 5) rfl (by rw [ev16]; rfl) (by decide) rfl (fun ls hl => ?_)
            refine lv_goto (tgt := 32) hx hb d_Co_noteInner_74 (by decide) ?_
            exact ih.2.2 hP hD hS (lv_sub hl [1, 2, 3, 4, 5, 0] rfl) (tq_gi hg hn)
          · replace hg := tq_if_f c13 hg
            refine lv_iconst (v := 1) hx hb d_Co_noteInner_62 (by decide) ?_
            refine lv_iload_n hx hb d_Co_noteInner_63 rfl (lv_at hl 1 rfl) ?_
            refine lv_ishl hx hb d_Co_noteInner_64 ?_
            refine lv_goto (tgt := 69) hx hb d_Co_noteInner_65 (by decide) ?_
            refine lv_ior hx hb d_Co_noteInner_69 ?_
            obtain ⟨g17, hg⟩ := tq_gd_s hg
            refine va_iast hx hb hK hP hD hS 12 0 rfl rfl g17 d_Co_noteInner_70 (fun H locs hP hD hS => ?_)
            obtain ⟨σ18, eσ18, hg⟩ := tq_lj_s hg
            replace hP : va_P (dC, dI) tq_cl (wo cI cL cZ ad σ18) H := by rw [eσ18, ← ws_i4]; exact hP
            replace hD : va_D A (wo cI cL cZ ad σ18) := by rw [eσ18, ← ws_i4]; exact hD
            obtain ⟨v19, ev19, hg⟩ := tq_lj_s hg
            refine lv_iinc (v := v19) (lv' := [(6, .int v19), (0, .ref (ad 1)), (1, .int x1), (2, .int x2), (3, .int x3), (4, .long y4)]) hx hb d_Co_noteInner_71 hl (k := 5) rfl (by rw [ev19]; rfl) (by decide) rfl (fun ls hl => ?_)
            refine lv_goto (tgt := 32) hx hb d_Co_noteInner_74 (by decide) ?_
            exact ih.2.2 hP hD hS (lv_sub hl [1, 2, 3, 4, 5, 0] rfl) (tq_gi hg hn)
  exact (key n0).1 hP hD hS hl h0
noncomputable def bk_Co_addAtom_0 : List Int32 → List Int64 → tq_S → Option tq_C
  | [x1], [], σ => tq_lj (σ.2.2 1) (fun v1 => tq_gd v1 10 (tq_lj (iput σ 3 v1.toNatClampNeg x1) (fun σ3 => tq_lj (fput σ3 1 ((σ3.2.2 1) + 1)) (fun σ4 => tq_gd x1 80 (if ¬ (ia σ4 0 x1) = 6 then some (tq_rt, [], [], σ4) else tq_gd x1 80 (tq_ob (tq_fV st_Co_noteInner (0, [v1, (ia σ4 2 x1)], [], σ4)) (fun _ σ10 => some (tq_rt, [], [], σ10))))))))
  | _, _, _ => none
noncomputable def st_Co_addAtom (c : tq_C) : Option tq_C := if c.1 = 0 then bk_Co_addAtom_0 c.2.1 c.2.2.1 c.2.2.2 else none
set_option maxHeartbeats 40000000 in
set_option maxRecDepth 100000 in
theorem c_Co_addAtom (l : Launch) (dC : Nat → ClassId) (dI : Nat → Nat → Nat) (cI cL cZ : ClassId) (ad : Nat → Nat) (tt : Nat) (sz : Nat) (σ : tq_S) (a1 : Int32) (σ' : tq_S) (hf : tq_fV st_Co_addAtom (0, [a1], [], σ) = some ((), σ')) : Met l y_Co_addAtom w_Co_addAtom ({ frames := 2, cells := 0, slots := 0, locals := 49 } : Room) (va_Pc [.ref (ad 1), .int a1] (tq_B dC dI cI cL cZ tt (wo cI cL cZ ad σ) sz)) (va_Qv (fun (u : tq_S) => u = σ') (tq_E dC dI cI cL cZ (wo cI cL cZ ad) (va_A (wo cI cL cZ ad σ) sz)) (va_A (wo cI cL cZ ad σ) sz)) 0 0 (va_A (wo cI cL cZ ad σ) sz) := by
  obtain ⟨n0, h0⟩ := tq_fV_to hf
  refine Met.ofW (cc := prog_2_method_21_code) (maxL := 3) (ret := none) (by decide) rfl ?_
  intro p e s m args below meth c s₁ B hml hv
  obtain ⟨rfl, hsz, hP, hK, hD0, hZ, hN⟩ := hv
  have hx := B.exec
  have hb := B.bytes
  have hr := B.returns
  have hts : ∀ w ∈ tq_T, w.before _ s = true := fun w h => atoms_spec (ws := w_Co_addAtom) B.pre w (List.mem_cons_of_mem _ h)
  have hown : s.vm.findClass "TableauNodes$Concepts" = some m.cls := findClass_of_methodNamed B.named
  have hlocks := B.notSynchronized
  subst hsz
  have hD := hD0.self (sz := s.heap.size)
  have hS : va_S (va_A (wo cI cL cZ ad σ) s.heap.size) s.heap s.heap [] := va_S.rf
  have hA : ∀ q : Nat, s.heap.size ≤ q → va_A (wo cI cL cZ ad σ) s.heap.size q := fun q h => Or.inr h
  generalize va_A (wo cI cL cZ ad σ) s.heap.size = A at hD hS hA hZ ⊢
  have hl := lv_entry ([.ref (ad 1), .int a1]) (n := 3) (Nat.le_of_ble_eq_true rfl)
  rw [lg_entry_eq]
  generalize (lg_sl ([.ref (ad 1), .int a1]) ++ List.replicate (3 - (lg_sl ([.ref (ad 1), .int a1])).length) Slot.unset).toArray = ls at hl ⊢
  have hl : lv_has ls 3 [(0, .ref (ad 1)), (1, .int a1)] := hl
  have key : ∀ n : Nat, (∀ {x1 : Int32} {σ : tq_S} {H : Heap} {locs : List Loc} {ls : Array Slot}, va_P (dC, dI) tq_cl (wo cI cL cZ ad σ) H → va_D A (wo cI cL cZ ad σ) → va_S A s.heap H locs → lv_has ls 3 [(0, .ref (ad 1)), (1, .int x1)] → tq_go st_Co_addAtom n (0, [x1], [], σ) = some (tq_rt, [], [], σ') → W p l e (headSpec w_Co_addAtom ({ frames := 2, cells := 0, slots := 0, locals := 49 } : Room)).room s m ([.ref (ad 1), .int a1] : List Value).toArray below meth c H locs 0 0 (MQ below (va_Qv (fun (u : tq_S) => u = σ') (tq_E dC dI cI cL cZ (wo cI cL cZ ad) A) A) ([.ref (ad 1), .int a1] : List Value).toArray s 0 0 A) (F0 m 0 ls [])) := by
    intro n
    induction n with
    | zero => exact fun _ _ _ _ h => by cases h
    | succ n ih =>
      intro x1 σ H locs ls hP hD hS hl h9
      obtain ⟨q9, hg, hn⟩ := tq_go_s h9 (show ¬ (0 : Nat) = tq_rt by decide)
      replace hg : bk_Co_addAtom_0 [x1] [] σ = some q9 := hg
      unfold bk_Co_addAtom_0 at hg
      refine lv_aload_n hx hb d_Co_addAtom_0 rfl (lv_at hl 0 rfl) ?_
      refine va_get (D := (dC, dI)) (ci := 1) (v := .int (σ.2.2 1)) (C := "TableauNodes$Concepts") (T := F_Co) (N := 9) hx hb hts in_Co hown hK hP 1 rfl rfl 8 (by decide) (hts _ tw_71) (fun _ h9 => h9) rfl d_Co_addAtom_1 ?_
      obtain ⟨v1, ev1, hg⟩ := tq_lj_s hg
      refine tq_nmi ev1 ?_
      refine lv_istore_n (lv' := [(2, .int v1), (0, .ref (ad 1)), (1, .int x1)]) hx hb d_Co_addAtom_4 rfl hl (by decide) rfl (fun ls hl => ?_)
      refine lv_aload_n hx hb d_Co_addAtom_5 rfl (lv_at hl 1 rfl) ?_
      refine va_get (D := (dC, dI)) (ci := 1) (v := .ref (ad 10)) (C := "TableauNodes$Concepts") (T := F_Co) (N := 9) hx hb hts in_Co hown hK hP 1 rfl rfl 4 (by decide) (hts _ tw_67) (fun _ h9 => h9) rfl d_Co_addAtom_6 ?_
      refine lv_iload_n hx hb d_Co_addAtom_9 rfl (lv_at hl 0 rfl) ?_
      refine lv_iload_n hx hb d_Co_addAtom_10 rfl (lv_at hl 2 rfl) ?_
      obtain ⟨g2, hg⟩ := tq_gd_s hg
      refine va_iast hx hb hK hP hD hS 10 0 rfl rfl g2 d_Co_addAtom_11 (fun H locs hP hD hS => ?_)
      obtain ⟨σ3, eσ3, hg⟩ := tq_lj_s hg
      replace hP : va_P (dC, dI) tq_cl (wo cI cL cZ ad σ3) H := by rw [eσ3, ← ws_i3]; exact hP
      replace hD : va_D A (wo cI cL cZ ad σ3) := by rw [eσ3, ← ws_i3]; exact hD
      refine lv_aload_n hx hb d_Co_addAtom_12 rfl (lv_at hl 1 rfl) ?_
      refine lv_dup hx hb d_Co_addAtom_13 rfl ?_
      refine va_get (D := (dC, dI)) (ci := 1) (v := .int (σ3.2.2 1)) (C := "TableauNodes$Concepts") (T := F_Co) (N := 9) hx hb hts in_Co hown hK hP 1 rfl rfl 8 (by decide) (hts _ tw_71) (fun _ h9 => h9) rfl d_Co_addAtom_14 ?_
      refine lv_iconst (v := 1) hx hb d_Co_addAtom_17 (by decide) ?_
      refine lv_iadd hx hb d_Co_addAtom_18 ?_
      refine va_put (D := (dC, dI)) (ci := 1) (v := .int ((σ3.2.2 1) + 1)) (ty := .int) (C := "TableauNodes$Concepts") (T := F_Co) (N := 9) hx hb hts in_Co ty_Co tk_Co nm_Co hown hK hP hD hS 1 rfl rfl 8 (by decide) (hts _ tw_71) (fun _ h9 => h9) rfl (by decide +kernel) rfl rfl (Nat.le_of_ble_eq_true rfl) d_Co_addAtom_19 (fun H locs hP hD hS => ?_)
      obtain ⟨σ4, eσ4, hg⟩ := tq_lj_s hg
      replace hP : va_P (dC, dI) tq_cl (wo cI cL cZ ad σ4) H := by rw [eσ4, ← ws_f1]; exact hP
      replace hD : va_D A (wo cI cL cZ ad σ4) := by rw [eσ4, ← ws_f1]; exact hD
      refine lv_aload_n hx hb d_Co_addAtom_22 rfl (lv_at hl 1 rfl) ?_
      refine va_get (D := (dC, dI)) (ci := 1) (v := .ref (ad 6)) (C := "TableauNodes$Concepts") (T := F_Co) (N := 9) hx hb hts in_Co hown hK hP 1 rfl rfl 0 (by decide) (hts _ tw_63) (fun _ h9 => h9) rfl d_Co_addAtom_23 ?_
      refine lv_iload_n hx hb d_Co_addAtom_26 rfl (lv_at hl 2 rfl) ?_
      obtain ⟨g5, hg⟩ := tq_gd_s hg
      refine va_iald hx hb hK hP 6 0 rfl rfl g5 d_Co_addAtom_27 ?_
      refine lv_bipush (v := 6) hx hb d_Co_addAtom_28 (by decide) ?_
      refine lv_icmp_ne (tgt := 44) hx hb d_Co_addAtom_30 (by decide) (fun c6 => ?_) (fun c6 => ?_)
      · replace hg := tq_if_t c6 hg
        exact W.vret hx hb hr (fun t ht hW => ⟨⟨σ4, rfl, tq_grV hg hn, by rw [ht]; exact hP, va_K.moved hW.alike hK, hD⟩, hS.F ht⟩) hS.2.2 d_Co_addAtom_44
      · replace hg := tq_if_n c6 hg
        refine lv_aload_n hx hb d_Co_addAtom_33 rfl (lv_at hl 1 rfl) ?_
        refine lv_iload_n hx hb d_Co_addAtom_34 rfl (lv_at hl 0 rfl) ?_
        refine lv_aload_n hx hb d_Co_addAtom_35 rfl (lv_at hl 1 rfl) ?_
        refine va_get (D := (dC, dI)) (ci := 1) (v := .ref (ad 8)) (C := "TableauNodes$Concepts") (T := F_Co) (N := 9) hx hb hts in_Co hown hK hP 1 rfl rfl 2 (by decide) (hts _ tw_65) (fun _ h9 => h9) rfl d_Co_addAtom_36 ?_
        refine lv_iload_n hx hb d_Co_addAtom_39 rfl (lv_at hl 2 rfl) ?_
        obtain ⟨g7, hg⟩ := tq_gd_s hg
        refine va_iald hx hb hK hP 8 0 rfl rfl g7 d_Co_addAtom_40 ?_
        obtain ⟨⟨⟩, σ10, f8, hg⟩ := tq_ob_s hg
        refine tq_aV (va_runV (As := [.int v1, .int (ia σ4 2 x1)]) (rest := []) ⟨hx, hb, hml, hown, hts⟩ (c_Co_noteInner l dC dI cI cL cZ ad tt H.size σ4 v1 (ia σ4 2 x1)   σ10 f8) (cwV 2 hts (tq_gV tw_56 tw_58 ts_4 tw_2 tw_59) rfl rfl rfl (by decide +kernel) ⟨Nat.le_of_ble_eq_true rfl, Nat.le_of_ble_eq_true rfl⟩) ⟨tq_bl, va_recv hK hP (ci := 1) (q0 := 1) rfl rfl, (tq_pr hP hK hD hS hA hZ hN)⟩ rfl rfl hl.1 rfl (lv_room (Nat.le_of_ble_eq_true rfl)) d_Co_addAtom_41 ⟨Nat.zero_le _, Nat.zero_le _⟩) hD hS hA (fun H locs hP hD hS => ?_)
        exact W.vret hx hb hr (fun t ht hW => ⟨⟨σ10, rfl, tq_grV hg hn, by rw [ht]; exact hP, va_K.moved hW.alike hK, hD⟩, hS.F ht⟩) hS.2.2 d_Co_addAtom_44
  exact (key n0) hP hD hS hl h0
noncomputable def bk_Co_add_0 : List Int32 → List Int64 → tq_S → Option tq_C
  | [x1, x2, x3], [], σ => if x1 = 2 then some (11, [x1, x2, x3], [], σ) else if ¬ x1 = 6 then if 80 ≤ (σ.2.2 0) then some (tq_rt, [(-3)], [], σ) else some (44, [x1, x2, x3, 0], [], σ) else some (11, [x1, x2, x3], [], σ)
  | _, _, _ => none
noncomputable def bk_Co_add_11 : List Int32 → List Int64 → tq_S → Option tq_C
  | [x1, x2, x3], [], σ => if 80 ≤ (σ.2.2 0) then some (tq_rt, [(-3)], [], σ) else if (σ.2.2 1) < 10 then some (44, [x1, x2, x3, 1], [], σ) else some (tq_rt, [(-3)], [], σ)
  | _, _, _ => none
noncomputable def bk_Co_add_44 : List Int32 → List Int64 → tq_S → Option tq_C
  | [x1, x2, x3, x4], [], σ => tq_lj (σ.2.2 0) (fun v8 => tq_gd v8 80 (tq_lj (iput σ 0 v8.toNatClampNeg x1) (fun σ10 => tq_gd v8 80 (tq_lj (iput σ10 1 v8.toNatClampNeg x2) (fun σ12 => tq_gd v8 80 (tq_lj (iput σ12 2 v8.toNatClampNeg x3) (fun σ14 => if ¬ x1 = 7 then some (103, [x1, x3, x4, v8, x2, 0], [], σ14) else tq_ob (tq_fI st_Co_find (0, [3, x3, 0], [], σ14)) (fun r17 σ18 => tq_ob (tq_fI st_Co_find (0, [6, x2, r17], [], σ18)) (fun r20 σ21 => some (103, [x1, x3, x4, v8, r20, 0], [], σ21))))))))))
  | _, _, _ => none
noncomputable def bk_Co_add_103 : List Int32 → List Int64 → tq_S → Option tq_C
  | [x1, x3, x4, x5, x6, x7], [], σ => if 16 ≤ x7 then tq_lj (fput σ 0 ((σ.2.2 0) + 1)) (fun σ23 => if x4 = 0 then some (tq_rt, [x5], [], σ23) else tq_ob (tq_fV st_Co_addAtom (0, [x5], [], σ23)) (fun _ σ27 => some (tq_rt, [x5], [], σ27))) else tq_ob (tq_fL st_Co_newWord (0, [x1, x6, x3, x7], [], σ)) (fun r29 σ30 => tq_gd ((x5 * 16) + x7) 1280 (tq_lj (lput σ30 0 ((x5 * 16) + x7).toNatClampNeg r29) (fun σ32 => tq_lj (x7 + 1) (fun v33 => some (103, [x1, x3, x4, x5, x6, v33], [], σ32)))))
  | _, _, _ => none
noncomputable def st_Co_add (c : tq_C) : Option tq_C := if c.1 = 0 then bk_Co_add_0 c.2.1 c.2.2.1 c.2.2.2 else if c.1 = 11 then bk_Co_add_11 c.2.1 c.2.2.1 c.2.2.2 else if c.1 = 44 then bk_Co_add_44 c.2.1 c.2.2.1 c.2.2.2 else if c.1 = 103 then bk_Co_add_103 c.2.1 c.2.2.1 c.2.2.2 else none
set_option maxHeartbeats 40000000 in
set_option maxRecDepth 100000 in
theorem c_Co_add (l : Launch) (dC : Nat → ClassId) (dI : Nat → Nat → Nat) (cI cL cZ : ClassId) (ad : Nat → Nat) (tt : Nat) (sz : Nat) (σ : tq_S) (a1 : Int32) (a2 : Int32) (a3 : Int32) (r : Int32) (σ' : tq_S) (hf : tq_fI st_Co_add (0, [a1, a2, a3], [], σ) = some (r, σ')) : Met l y_Co_add w_Co_add ({ frames := 3, cells := 0, slots := 0, locals := 71 } : Room) (va_Pc [.ref (ad 1), .int a1, .int a2, .int a3] (tq_B dC dI cI cL cZ tt (wo cI cL cZ ad σ) sz)) (va_Qi (fun (r' : Int32) (u : tq_S) => r' = r ∧ u = σ') (tq_E dC dI cI cL cZ (wo cI cL cZ ad) (va_A (wo cI cL cZ ad σ) sz)) (va_A (wo cI cL cZ ad σ) sz)) 0 0 (va_A (wo cI cL cZ ad σ) sz) := by
  obtain ⟨n0, h0⟩ := tq_fI_to hf
  refine Met.ofW (cc := prog_2_method_19_code) (maxL := 8) (ret := (some .int)) (by decide) rfl ?_
  intro p e s m args below meth c s₁ B hml hv
  obtain ⟨rfl, hsz, hP, hK, hD0, hZ, hN⟩ := hv
  have hx := B.exec
  have hb := B.bytes
  have hr := B.returns
  have hts : ∀ w ∈ tq_T, w.before _ s = true := fun w h => atoms_spec (ws := w_Co_add) B.pre w (List.mem_cons_of_mem _ h)
  have hown : s.vm.findClass "TableauNodes$Concepts" = some m.cls := findClass_of_methodNamed B.named
  have hlocks := B.notSynchronized
  subst hsz
  have hD := hD0.self (sz := s.heap.size)
  have hS : va_S (va_A (wo cI cL cZ ad σ) s.heap.size) s.heap s.heap [] := va_S.rf
  have hA : ∀ q : Nat, s.heap.size ≤ q → va_A (wo cI cL cZ ad σ) s.heap.size q := fun q h => Or.inr h
  generalize va_A (wo cI cL cZ ad σ) s.heap.size = A at hD hS hA hZ ⊢
  have hl := lv_entry ([.ref (ad 1), .int a1, .int a2, .int a3]) (n := 8) (Nat.le_of_ble_eq_true rfl)
  rw [lg_entry_eq]
  generalize (lg_sl ([.ref (ad 1), .int a1, .int a2, .int a3]) ++ List.replicate (8 - (lg_sl ([.ref (ad 1), .int a1, .int a2, .int a3])).length) Slot.unset).toArray = ls at hl ⊢
  have hl : lv_has ls 8 [(0, .ref (ad 1)), (1, .int a1), (2, .int a2), (3, .int a3)] := hl
  have key : ∀ n : Nat, (∀ {x1 x2 x3 : Int32} {σ : tq_S} {H : Heap} {locs : List Loc} {ls : Array Slot}, va_P (dC, dI) tq_cl (wo cI cL cZ ad σ) H → va_D A (wo cI cL cZ ad σ) → va_S A s.heap H locs → lv_has ls 8 [(0, .ref (ad 1)), (1, .int x1), (2, .int x2), (3, .int x3)] → tq_go st_Co_add n (0, [x1, x2, x3], [], σ) = some (tq_rt, [r], [], σ') → W p l e (headSpec w_Co_add ({ frames := 3, cells := 0, slots := 0, locals := 71 } : Room)).room s m ([.ref (ad 1), .int a1, .int a2, .int a3] : List Value).toArray below meth c H locs 0 0 (MQ below (va_Qi (fun (r' : Int32) (u : tq_S) => r' = r ∧ u = σ') (tq_E dC dI cI cL cZ (wo cI cL cZ ad) A) A) ([.ref (ad 1), .int a1, .int a2, .int a3] : List Value).toArray s 0 0 A) (F0 m 0 ls [])) ∧ (∀ {x1 x2 x3 : Int32} {σ : tq_S} {H : Heap} {locs : List Loc} {ls : Array Slot}, va_P (dC, dI) tq_cl (wo cI cL cZ ad σ) H → va_D A (wo cI cL cZ ad σ) → va_S A s.heap H locs → lv_has ls 8 [(0, .ref (ad 1)), (1, .int x1), (2, .int x2), (3, .int x3)] → tq_go st_Co_add n (11, [x1, x2, x3], [], σ) = some (tq_rt, [r], [], σ') → W p l e (headSpec w_Co_add ({ frames := 3, cells := 0, slots := 0, locals := 71 } : Room)).room s m ([.ref (ad 1), .int a1, .int a2, .int a3] : List Value).toArray below meth c H locs 0 0 (MQ below (va_Qi (fun (r' : Int32) (u : tq_S) => r' = r ∧ u = σ') (tq_E dC dI cI cL cZ (wo cI cL cZ ad) A) A) ([.ref (ad 1), .int a1, .int a2, .int a3] : List Value).toArray s 0 0 A) (F0 m 11 ls [])) ∧ (∀ {x1 x2 x3 x4 : Int32} {σ : tq_S} {H : Heap} {locs : List Loc} {ls : Array Slot}, va_P (dC, dI) tq_cl (wo cI cL cZ ad σ) H → va_D A (wo cI cL cZ ad σ) → va_S A s.heap H locs → lv_has ls 8 [(0, .ref (ad 1)), (1, .int x1), (2, .int x2), (3, .int x3), (4, .int x4)] → tq_go st_Co_add n (44, [x1, x2, x3, x4], [], σ) = some (tq_rt, [r], [], σ') → W p l e (headSpec w_Co_add ({ frames := 3, cells := 0, slots := 0, locals := 71 } : Room)).room s m ([.ref (ad 1), .int a1, .int a2, .int a3] : List Value).toArray below meth c H locs 0 0 (MQ below (va_Qi (fun (r' : Int32) (u : tq_S) => r' = r ∧ u = σ') (tq_E dC dI cI cL cZ (wo cI cL cZ ad) A) A) ([.ref (ad 1), .int a1, .int a2, .int a3] : List Value).toArray s 0 0 A) (F0 m 44 ls [])) ∧ (∀ {x1 x3 x4 x5 x6 x7 : Int32} {σ : tq_S} {H : Heap} {locs : List Loc} {ls : Array Slot}, va_P (dC, dI) tq_cl (wo cI cL cZ ad σ) H → va_D A (wo cI cL cZ ad σ) → va_S A s.heap H locs → lv_has ls 8 [(0, .ref (ad 1)), (1, .int x1), (3, .int x3), (4, .int x4), (5, .int x5), (6, .int x6), (7, .int x7)] → tq_go st_Co_add n (103, [x1, x3, x4, x5, x6, x7], [], σ) = some (tq_rt, [r], [], σ') → W p l e (headSpec w_Co_add ({ frames := 3, cells := 0, slots := 0, locals := 71 } : Room)).room s m ([.ref (ad 1), .int a1, .int a2, .int a3] : List Value).toArray below meth c H locs 0 0 (MQ below (va_Qi (fun (r' : Int32) (u : tq_S) => r' = r ∧ u = σ') (tq_E dC dI cI cL cZ (wo cI cL cZ ad) A) A) ([.ref (ad 1), .int a1, .int a2, .int a3] : List Value).toArray s 0 0 A) (F0 m 103 ls [])) := by
    intro n
    induction n with
    | zero => exact ⟨(fun _ _ _ _ h => by cases h), (fun _ _ _ _ h => by cases h), (fun _ _ _ _ h => by cases h), (fun _ _ _ _ h => by cases h)⟩
    | succ n ih =>
      refine ⟨?_, ?_, ?_, ?_⟩
      · intro x1 x2 x3 σ H locs ls hP hD hS hl h9
        obtain ⟨q9, hg, hn⟩ := tq_go_s h9 (show ¬ (0 : Nat) = tq_rt by decide)
        replace hg : bk_Co_add_0 [x1, x2, x3] [] σ = some q9 := hg
        unfold bk_Co_add_0 at hg
        refine lv_iload_n hx hb d_Co_add_0 rfl (lv_at hl 1 rfl) ?_
        refine lv_iconst (v := 2) hx hb d_Co_add_1 (by decide) ?_
        refine lv_icmp_eq (tgt := 11) hx hb d_Co_add_2 (by decide) (fun c1 => ?_) (fun c1 => ?_)
        · replace hg := tq_if_t c1 hg
          exact ih.2.1 hP hD hS (lv_sub hl [0, 1, 2, 3] rfl) (tq_gi hg hn)
        · replace hg := tq_if_f c1 hg
          refine lv_iload_n hx hb d_Co_add_5 rfl (lv_at hl 1 rfl) ?_
          refine lv_bipush (v := 6) hx hb d_Co_add_6 (by decide) ?_
          refine lv_icmp_ne (tgt := 15) hx hb d_Co_add_8 (by decide) (fun c2 => ?_) (fun c2 => ?_)
          · replace hg := tq_if_t c2 hg
            refine lv_iconst (v := 0) hx hb d_Co_add_15 (by decide) ?_
            refine lv_istore (lv' := [(4, .int 0), (0, .ref (ad 1)), (1, .int x1), (2, .int x2), (3, .int x3)]) hx hb d_Co_add_16 hl (by decide) rfl (fun ls hl => ?_)
            refine lv_aload_n hx hb d_Co_add_18 rfl (lv_at hl 1 rfl) ?_
            refine va_get (D := (dC, dI)) (ci := 1) (v := .int (σ.2.2 0)) (C := "TableauNodes$Concepts") (T := F_Co) (N := 9) hx hb hts in_Co hown hK hP 1 rfl rfl 7 (by decide) (hts _ tw_70) (fun _ h9 => h9) rfl d_Co_add_19 ?_
            refine lv_bipush (v := 80) hx hb d_Co_add_22 (by decide) ?_
            refine lv_icmp_ge (tgt := 41) hx hb d_Co_add_24 (by decide) (fun c3 => ?_) (fun c3 => ?_)
            · replace hg := tq_if_t c3 hg
              refine lv_bipush (v := (-3)) hx hb d_Co_add_41 (by decide) ?_
              exact W.iret (v := (-3)) hx hb hr (fun t ht hW => ⟨⟨(-3), σ, rfl, tq_grI hg hn, by rw [ht]; exact hP, va_K.moved hW.alike hK, hD⟩, hS.F ht⟩) hS.2.2 d_Co_add_43
            · replace hg := tq_if_f c3 hg
              refine lv_iload hx hb d_Co_add_27 (lv_at hl 0 rfl) ?_
              refine lv_if_eq (tgt := 44) hx hb d_Co_add_29 (by decide) (fun _ => ?_) (fun c => False.elim (by revert c; decide))
              exact ih.2.2.1 hP hD hS (lv_sub hl [1, 2, 3, 4, 0] rfl) (tq_gi hg hn)
          · replace hg := tq_if_n c2 hg
            exact ih.2.1 hP hD hS (lv_sub hl [0, 1, 2, 3] rfl) (tq_gi hg hn)
      · intro x1 x2 x3 σ H locs ls hP hD hS hl h9
        obtain ⟨q9, hg, hn⟩ := tq_go_s h9 (show ¬ (11 : Nat) = tq_rt by decide)
        replace hg : bk_Co_add_11 [x1, x2, x3] [] σ = some q9 := hg
        unfold bk_Co_add_11 at hg
        refine lv_iconst (v := 1) hx hb d_Co_add_11 (by decide) ?_
        refine lv_goto (tgt := 16) hx hb d_Co_add_12 (by decide) ?_
        refine lv_istore (lv' := [(4, .int 1), (0, .ref (ad 1)), (1, .int x1), (2, .int x2), (3, .int x3)]) hx hb d_Co_add_16 hl (by decide) rfl (fun ls hl => ?_)
        refine lv_aload_n hx hb d_Co_add_18 rfl (lv_at hl 1 rfl) ?_
        refine va_get (D := (dC, dI)) (ci := 1) (v := .int (σ.2.2 0)) (C := "TableauNodes$Concepts") (T := F_Co) (N := 9) hx hb hts in_Co hown hK hP 1 rfl rfl 7 (by decide) (hts _ tw_70) (fun _ h9 => h9) rfl d_Co_add_19 ?_
        refine lv_bipush (v := 80) hx hb d_Co_add_22 (by decide) ?_
        refine lv_icmp_ge (tgt := 41) hx hb d_Co_add_24 (by decide) (fun c5 => ?_) (fun c5 => ?_)
        · replace hg := tq_if_t c5 hg
          refine lv_bipush (v := (-3)) hx hb d_Co_add_41 (by decide) ?_
          exact W.iret (v := (-3)) hx hb hr (fun t ht hW => ⟨⟨(-3), σ, rfl, tq_grI hg hn, by rw [ht]; exact hP, va_K.moved hW.alike hK, hD⟩, hS.F ht⟩) hS.2.2 d_Co_add_43
        · replace hg := tq_if_f c5 hg
          refine lv_iload hx hb d_Co_add_27 (lv_at hl 0 rfl) ?_
          refine lv_if_eq (tgt := 44) hx hb d_Co_add_29 (by decide) (fun c => False.elim (by revert c; decide)) (fun _ => ?_)
          refine lv_aload_n hx hb d_Co_add_32 rfl (lv_at hl 1 rfl) ?_
          refine va_get (D := (dC, dI)) (ci := 1) (v := .int (σ.2.2 1)) (C := "TableauNodes$Concepts") (T := F_Co) (N := 9) hx hb hts in_Co hown hK hP 1 rfl rfl 8 (by decide) (hts _ tw_71) (fun _ h9 => h9) rfl d_Co_add_33 ?_
          refine lv_bipush (v := 10) hx hb d_Co_add_36 (by decide) ?_
          refine lv_icmp_lt (tgt := 44) hx hb d_Co_add_38 (by decide) (fun c7 => ?_) (fun c7 => ?_)
          · replace hg := tq_if_t c7 hg
            exact ih.2.2.1 hP hD hS (lv_sub hl [1, 2, 3, 4, 0] rfl) (tq_gi hg hn)
          · replace hg := tq_if_f c7 hg
            refine lv_bipush (v := (-3)) hx hb d_Co_add_41 (by decide) ?_
            exact W.iret (v := (-3)) hx hb hr (fun t ht hW => ⟨⟨(-3), σ, rfl, tq_grI hg hn, by rw [ht]; exact hP, va_K.moved hW.alike hK, hD⟩, hS.F ht⟩) hS.2.2 d_Co_add_43
      · intro x1 x2 x3 x4 σ H locs ls hP hD hS hl h9
        obtain ⟨q9, hg, hn⟩ := tq_go_s h9 (show ¬ (44 : Nat) = tq_rt by decide)
        replace hg : bk_Co_add_44 [x1, x2, x3, x4] [] σ = some q9 := hg
        unfold bk_Co_add_44 at hg
        refine lv_aload_n hx hb d_Co_add_44 rfl (lv_at hl 0 rfl) ?_
        refine va_get (D := (dC, dI)) (ci := 1) (v := .int (σ.2.2 0)) (C := "TableauNodes$Concepts") (T := F_Co) (N := 9) hx hb hts in_Co hown hK hP 1 rfl rfl 7 (by decide) (hts _ tw_70) (fun _ h9 => h9) rfl d_Co_add_45 ?_
        obtain ⟨v8, ev8, hg⟩ := tq_lj_s hg
        refine tq_nmi ev8 ?_
        refine lv_istore (lv' := [(5, .int v8), (0, .ref (ad 1)), (1, .int x1), (2, .int x2), (3, .int x3), (4, .int x4)]) hx hb d_Co_add_48 hl (by decide) rfl (fun ls hl => ?_)
        refine lv_aload_n hx hb d_Co_add_50 rfl (lv_at hl 1 rfl) ?_
        refine va_get (D := (dC, dI)) (ci := 1) (v := .ref (ad 6)) (C := "TableauNodes$Concepts") (T := F_Co) (N := 9) hx hb hts in_Co hown hK hP 1 rfl rfl 0 (by decide) (hts _ tw_63) (fun _ h9 => h9) rfl d_Co_add_51 ?_
        refine lv_iload hx hb d_Co_add_54 (lv_at hl 0 rfl) ?_
        refine lv_iload_n hx hb d_Co_add_56 rfl (lv_at hl 2 rfl) ?_
        obtain ⟨g9, hg⟩ := tq_gd_s hg
        refine va_iast hx hb hK hP hD hS 6 0 rfl rfl g9 d_Co_add_57 (fun H locs hP hD hS => ?_)
        obtain ⟨σ10, eσ10, hg⟩ := tq_lj_s hg
        replace hP : va_P (dC, dI) tq_cl (wo cI cL cZ ad σ10) H := by rw [eσ10, ← ws_i0]; exact hP
        replace hD : va_D A (wo cI cL cZ ad σ10) := by rw [eσ10, ← ws_i0]; exact hD
        refine lv_aload_n hx hb d_Co_add_58 rfl (lv_at hl 1 rfl) ?_
        refine va_get (D := (dC, dI)) (ci := 1) (v := .ref (ad 7)) (C := "TableauNodes$Concepts") (T := F_Co) (N := 9) hx hb hts in_Co hown hK hP 1 rfl rfl 1 (by decide) (hts _ tw_64) (fun _ h9 => h9) rfl d_Co_add_59 ?_
        refine lv_iload hx hb d_Co_add_62 (lv_at hl 0 rfl) ?_
        refine lv_iload_n hx hb d_Co_add_64 rfl (lv_at hl 3 rfl) ?_
        obtain ⟨g11, hg⟩ := tq_gd_s hg
        refine va_iast hx hb hK hP hD hS 7 0 rfl rfl g11 d_Co_add_65 (fun H locs hP hD hS => ?_)
        obtain ⟨σ12, eσ12, hg⟩ := tq_lj_s hg
        replace hP : va_P (dC, dI) tq_cl (wo cI cL cZ ad σ12) H := by rw [eσ12, ← ws_i1]; exact hP
        replace hD : va_D A (wo cI cL cZ ad σ12) := by rw [eσ12, ← ws_i1]; exact hD
        refine lv_aload_n hx hb d_Co_add_66 rfl (lv_at hl 1 rfl) ?_
        refine va_get (D := (dC, dI)) (ci := 1) (v := .ref (ad 8)) (C := "TableauNodes$Concepts") (T := F_Co) (N := 9) hx hb hts in_Co hown hK hP 1 rfl rfl 2 (by decide) (hts _ tw_65) (fun _ h9 => h9) rfl d_Co_add_67 ?_
        refine lv_iload hx hb d_Co_add_70 (lv_at hl 0 rfl) ?_
        refine lv_iload_n hx hb d_Co_add_72 rfl (lv_at hl 4 rfl) ?_
        obtain ⟨g13, hg⟩ := tq_gd_s hg
        refine va_iast hx hb hK hP hD hS 8 0 rfl rfl g13 d_Co_add_73 (fun H locs hP hD hS => ?_)
        obtain ⟨σ14, eσ14, hg⟩ := tq_lj_s hg
        replace hP : va_P (dC, dI) tq_cl (wo cI cL cZ ad σ14) H := by rw [eσ14, ← ws_i2]; exact hP
        replace hD : va_D A (wo cI cL cZ ad σ14) := by rw [eσ14, ← ws_i2]; exact hD
        refine lv_iload_n hx hb d_Co_add_74 rfl (lv_at hl 2 rfl) ?_
        refine lv_bipush (v := 7) hx hb d_Co_add_75 (by decide) ?_
        refine lv_icmp_ne (tgt := 97) hx hb d_Co_add_77 (by decide) (fun c15 => ?_) (fun c15 => ?_)
        · replace hg := tq_if_t c15 hg
          refine lv_iload_n hx hb d_Co_add_97 rfl (lv_at hl 3 rfl) ?_
          refine lv_istore (lv' := [(6, .int x2), (5, .int v8), (0, .ref (ad 1)), (1, .int x1), (2, .int x2), (3, .int x3), (4, .int x4)]) hx hb d_Co_add_98 hl (by decide) rfl (fun ls hl => ?_)
          refine lv_iconst (v := 0) hx hb d_Co_add_100 (by decide) ?_
          refine lv_istore (lv' := [(7, .int 0), (6, .int x2), (5, .int v8), (0, .ref (ad 1)), (1, .int x1), (2, .int x2), (3, .int x3), (4, .int x4)]) hx hb d_Co_add_101 hl (by decide) rfl (fun ls hl => ?_)
          exact ih.2.2.2 hP hD hS (lv_sub hl [3, 4, 6, 7, 2, 1, 0] rfl) (tq_gi hg hn)
        · replace hg := tq_if_n c15 hg
          refine lv_aload_n hx hb d_Co_add_80 rfl (lv_at hl 1 rfl) ?_
          refine lv_bipush (v := 6) hx hb d_Co_add_81 (by decide) ?_
          refine lv_iload_n hx hb d_Co_add_83 rfl (lv_at hl 3 rfl) ?_
          refine lv_aload_n hx hb d_Co_add_84 rfl (lv_at hl 1 rfl) ?_
          refine lv_iconst (v := 3) hx hb d_Co_add_85 (by decide) ?_
          refine lv_iload_n hx hb d_Co_add_86 rfl (lv_at hl 4 rfl) ?_
          refine lv_iconst (v := 0) hx hb d_Co_add_87 (by decide) ?_
          obtain ⟨r17, σ18, f16, hg⟩ := tq_ob_s hg
          refine tq_aI (va_runV (As := [.int 3, .int x3, .int 0]) (rest := [.int x2, .int 6, .ref (ad 1)]) ⟨hx, hb, hml, hown, hts⟩ (c_Co_find l dC dI cI cL cZ ad tt H.size σ14 3 x3 0  r17 σ18 f16) (cwV 3 hts (tq_gV tw_29 tw_31 ts_0 tw_2 tw_32) rfl rfl rfl (by decide +kernel) ⟨Nat.le_of_ble_eq_true rfl, Nat.le_of_ble_eq_true rfl⟩) ⟨tq_bl, va_recv hK hP (ci := 1) (q0 := 1) rfl rfl, (tq_pr hP hK hD hS hA hZ hN)⟩ rfl rfl hl.1 rfl (lv_room (Nat.le_of_ble_eq_true rfl)) d_Co_add_88 ⟨Nat.zero_le _, Nat.zero_le _⟩) hD hS hA (fun H locs hP hD hS => ?_)
          obtain ⟨r20, σ21, f19, hg⟩ := tq_ob_s hg
          refine tq_aI (va_runV (As := [.int 6, .int x2, .int r17]) (rest := []) ⟨hx, hb, hml, hown, hts⟩ (c_Co_find l dC dI cI cL cZ ad tt H.size σ18 6 x2 r17  r20 σ21 f19) (cwV 3 hts (tq_gV tw_29 tw_31 ts_0 tw_2 tw_32) rfl rfl rfl (by decide +kernel) ⟨Nat.le_of_ble_eq_true rfl, Nat.le_of_ble_eq_true rfl⟩) ⟨tq_bl, va_recv hK hP (ci := 1) (q0 := 1) rfl rfl, (tq_pr hP hK hD hS hA hZ hN)⟩ rfl rfl hl.1 rfl (lv_room (Nat.le_of_ble_eq_true rfl)) d_Co_add_91 ⟨Nat.zero_le _, Nat.zero_le _⟩) hD hS hA (fun H locs hP hD hS => ?_)
          refine lv_goto (tgt := 98) hx hb d_Co_add_94 (by decide) ?_
          refine lv_istore (lv' := [(6, .int r20), (5, .int v8), (0, .ref (ad 1)), (1, .int x1), (2, .int x2), (3, .int x3), (4, .int x4)]) hx hb d_Co_add_98 hl (by decide) rfl (fun ls hl => ?_)
          refine lv_iconst (v := 0) hx hb d_Co_add_100 (by decide) ?_
          refine lv_istore (lv' := [(7, .int 0), (6, .int r20), (5, .int v8), (0, .ref (ad 1)), (1, .int x1), (2, .int x2), (3, .int x3), (4, .int x4)]) hx hb d_Co_add_101 hl (by decide) rfl (fun ls hl => ?_)
          exact ih.2.2.2 hP hD hS (lv_sub hl [3, 4, 6, 7, 2, 1, 0] rfl) (tq_gi hg hn)
      · intro x1 x3 x4 x5 x6 x7 σ H locs ls hP hD hS hl h9
        obtain ⟨q9, hg, hn⟩ := tq_go_s h9 (show ¬ (103 : Nat) = tq_rt by decide)
        replace hg : bk_Co_add_103 [x1, x3, x4, x5, x6, x7] [] σ = some q9 := hg
        unfold bk_Co_add_103 at hg
        refine lv_iload hx hb d_Co_add_103 (lv_at hl 6 rfl) ?_
        refine lv_bipush (v := 16) hx hb d_Co_add_105 (by decide) ?_
        refine lv_icmp_ge (tgt := 139) hx hb d_Co_add_107 (by decide) (fun c22 => ?_) (fun c22 => ?_)
        · replace hg := tq_if_t c22 hg
          refine lv_aload_n hx hb d_Co_add_139 rfl (lv_at hl 0 rfl) ?_
          refine lv_dup hx hb d_Co_add_140 rfl ?_
          refine va_get (D := (dC, dI)) (ci := 1) (v := .int (σ.2.2 0)) (C := "TableauNodes$Concepts") (T := F_Co) (N := 9) hx hb hts in_Co hown hK hP 1 rfl rfl 7 (by decide) (hts _ tw_70) (fun _ h9 => h9) rfl d_Co_add_141 ?_
          refine lv_iconst (v := 1) hx hb d_Co_add_144 (by decide) ?_
          refine lv_iadd hx hb d_Co_add_145 ?_
          refine va_put (D := (dC, dI)) (ci := 1) (v := .int ((σ.2.2 0) + 1)) (ty := .int) (C := "TableauNodes$Concepts") (T := F_Co) (N := 9) hx hb hts in_Co ty_Co tk_Co nm_Co hown hK hP hD hS 1 rfl rfl 7 (by decide) (hts _ tw_70) (fun _ h9 => h9) rfl (by decide +kernel) rfl rfl (Nat.le_of_ble_eq_true rfl) d_Co_add_146 (fun H locs hP hD hS => ?_)
          obtain ⟨σ23, eσ23, hg⟩ := tq_lj_s hg
          replace hP : va_P (dC, dI) tq_cl (wo cI cL cZ ad σ23) H := by rw [eσ23, ← ws_f0]; exact hP
          replace hD : va_D A (wo cI cL cZ ad σ23) := by rw [eσ23, ← ws_f0]; exact hD
          refine lv_iload hx hb d_Co_add_149 (lv_at hl 3 rfl) ?_
          refine lv_if_eq (tgt := 160) hx hb d_Co_add_151 (by decide) (fun c24 => ?_) (fun c24 => ?_)
          · replace hg := tq_if_t c24 hg
            refine lv_iload hx hb d_Co_add_160 (lv_at hl 4 rfl) ?_
            exact W.iret (v := x5) hx hb hr (fun t ht hW => ⟨⟨x5, σ23, rfl, tq_grI hg hn, by rw [ht]; exact hP, va_K.moved hW.alike hK, hD⟩, hS.F ht⟩) hS.2.2 d_Co_add_162
          · replace hg := tq_if_f c24 hg
            refine lv_aload_n hx hb d_Co_add_154 rfl (lv_at hl 0 rfl) ?_
            refine lv_iload hx hb d_Co_add_155 (lv_at hl 4 rfl) ?_
            obtain ⟨⟨⟩, σ27, f25, hg⟩ := tq_ob_s hg
            refine tq_aV (va_runV (As := [.int x5]) (rest := []) ⟨hx, hb, hml, hown, hts⟩ (c_Co_addAtom l dC dI cI cL cZ ad tt H.size σ23 x5   σ27 f25) (cwV 1 hts (tq_gV tw_52 tw_54 ts_3 tw_2 tw_55) rfl rfl rfl (by decide +kernel) ⟨Nat.le_of_ble_eq_true rfl, Nat.le_of_ble_eq_true rfl⟩) ⟨tq_bl, va_recv hK hP (ci := 1) (q0 := 1) rfl rfl, (tq_pr hP hK hD hS hA hZ hN)⟩ rfl rfl hl.1 rfl (lv_room (Nat.le_of_ble_eq_true rfl)) d_Co_add_157 ⟨Nat.zero_le _, Nat.zero_le _⟩) hD hS hA (fun H locs hP hD hS => ?_)
            refine lv_iload hx hb d_Co_add_160 (lv_at hl 4 rfl) ?_
            exact W.iret (v := x5) hx hb hr (fun t ht hW => ⟨⟨x5, σ27, rfl, tq_grI hg hn, by rw [ht]; exact hP, va_K.moved hW.alike hK, hD⟩, hS.F ht⟩) hS.2.2 d_Co_add_162
        · replace hg := tq_if_f c22 hg
          refine lv_aload_n hx hb d_Co_add_110 rfl (lv_at hl 0 rfl) ?_
          refine va_get (D := (dC, dI)) (ci := 1) (v := .ref (ad 9)) (C := "TableauNodes$Concepts") (T := F_Co) (N := 9) hx hb hts in_Co hown hK hP 1 rfl rfl 3 (by decide) (hts _ tw_66) (fun _ h9 => h9) rfl d_Co_add_111 ?_
          refine lv_iload hx hb d_Co_add_114 (lv_at hl 4 rfl) ?_
          refine lv_bipush (v := 16) hx hb d_Co_add_116 (by decide) ?_
          refine lv_imul hx hb d_Co_add_118 ?_
          refine lv_iload hx hb d_Co_add_119 (lv_at hl 6 rfl) ?_
          refine lv_iadd hx hb d_Co_add_121 ?_
          refine lv_aload_n hx hb d_Co_add_122 rfl (lv_at hl 0 rfl) ?_
          refine lv_iload_n hx hb d_Co_add_123 rfl (lv_at hl 1 rfl) ?_
          refine lv_iload hx hb d_Co_add_124 (lv_at hl 5 rfl) ?_
          refine lv_iload_n hx hb d_Co_add_126 rfl (lv_at hl 2 rfl) ?_
          refine lv_iload hx hb d_Co_add_127 (lv_at hl 6 rfl) ?_
          obtain ⟨r29, σ30, f28, hg⟩ := tq_ob_s hg
          refine tq_aL (va_runV (As := [.int x1, .int x6, .int x3, .int x7]) (rest := [.int ((x5 * 16) + x7), .ref (ad 9)]) ⟨hx, hb, hml, hown, hts⟩ (c_Co_newWord l dC dI cI cL cZ ad tt H.size σ x1 x6 x3 x7  r29 σ30 f28) (cwV 4 hts (tq_gV tw_37 tw_39 ts_2 tw_2 tw_40) rfl rfl rfl (by decide +kernel) ⟨Nat.le_of_ble_eq_true rfl, Nat.le_of_ble_eq_true rfl⟩) ⟨tq_bl, va_recv hK hP (ci := 1) (q0 := 1) rfl rfl, (tq_pr hP hK hD hS hA hZ hN)⟩ rfl rfl hl.1 rfl (lv_room (Nat.le_of_ble_eq_true rfl)) d_Co_add_129 ⟨Nat.zero_le _, Nat.zero_le _⟩) hD hS hA (fun H locs hP hD hS => ?_)
          obtain ⟨g31, hg⟩ := tq_gd_s hg
          refine va_last hx hb hK hP hD hS 9 1 rfl rfl g31 d_Co_add_132 (fun H locs hP hD hS => ?_)
          obtain ⟨σ32, eσ32, hg⟩ := tq_lj_s hg
          replace hP : va_P (dC, dI) tq_cl (wo cI cL cZ ad σ32) H := by rw [eσ32, ← ws_l0]; exact hP
          replace hD : va_D A (wo cI cL cZ ad σ32) := by rw [eσ32, ← ws_l0]; exact hD
          obtain ⟨v33, ev33, hg⟩ := tq_lj_s hg
          refine lv_iinc (v := v33) (lv' := [(7, .int v33), (0, .ref (ad 1)), (1, .int x1), (3, .int x3), (4, .int x4), (5, .int x5), (6, .int x6)]) hx hb d_Co_add_133 hl (k := 6) rfl (by rw [ev33]; rfl) (by decide) rfl (fun ls hl => ?_)
          refine lv_goto (tgt := 103) hx hb d_Co_add_136 (by decide) ?_
          exact ih.2.2.2 hP hD hS (lv_sub hl [1, 2, 3, 4, 5, 6, 0] rfl) (tq_gi hg hn)
  exact (key n0).1 hP hD hS hl h0
noncomputable def bk_Co_make_0 : List Int32 → List Int64 → tq_S → Option tq_C
  | [x1, x2, x3], [], σ => tq_ob (tq_fI st_Co_find (0, [x1, x2, x3], [], σ)) (fun r2 σ3 => if ¬ r2 = (-1) then some (tq_rt, [r2], [], σ3) else tq_ob (tq_fI st_Co_add (0, [x1, x2, x3], [], σ3)) (fun r6 σ7 => some (tq_rt, [r6], [], σ7)))
  | _, _, _ => none
noncomputable def st_Co_make (c : tq_C) : Option tq_C := if c.1 = 0 then bk_Co_make_0 c.2.1 c.2.2.1 c.2.2.2 else none
set_option maxHeartbeats 40000000 in
set_option maxRecDepth 100000 in
theorem c_Co_make (l : Launch) (dC : Nat → ClassId) (dI : Nat → Nat → Nat) (cI cL cZ : ClassId) (ad : Nat → Nat) (tt : Nat) (sz : Nat) (σ : tq_S) (a1 : Int32) (a2 : Int32) (a3 : Int32) (r : Int32) (σ' : tq_S) (hf : tq_fI st_Co_make (0, [a1, a2, a3], [], σ) = some (r, σ')) : Met l y_Co_make w_Co_make ({ frames := 4, cells := 0, slots := 0, locals := 98 } : Room) (va_Pc [.ref (ad 1), .int a1, .int a2, .int a3] (tq_B dC dI cI cL cZ tt (wo cI cL cZ ad σ) sz)) (va_Qi (fun (r' : Int32) (u : tq_S) => r' = r ∧ u = σ') (tq_E dC dI cI cL cZ (wo cI cL cZ ad) (va_A (wo cI cL cZ ad σ) sz)) (va_A (wo cI cL cZ ad σ) sz)) 0 0 (va_A (wo cI cL cZ ad σ) sz) := by
  obtain ⟨n0, h0⟩ := tq_fI_to hf
  refine Met.ofW (cc := prog_2_method_9_code) (maxL := 5) (ret := (some .int)) (by decide) rfl ?_
  intro p e s m args below meth c s₁ B hml hv
  obtain ⟨rfl, hsz, hP, hK, hD0, hZ, hN⟩ := hv
  have hx := B.exec
  have hb := B.bytes
  have hr := B.returns
  have hts : ∀ w ∈ tq_T, w.before _ s = true := fun w h => atoms_spec (ws := w_Co_make) B.pre w (List.mem_cons_of_mem _ h)
  have hown : s.vm.findClass "TableauNodes$Concepts" = some m.cls := findClass_of_methodNamed B.named
  have hlocks := B.notSynchronized
  subst hsz
  have hD := hD0.self (sz := s.heap.size)
  have hS : va_S (va_A (wo cI cL cZ ad σ) s.heap.size) s.heap s.heap [] := va_S.rf
  have hA : ∀ q : Nat, s.heap.size ≤ q → va_A (wo cI cL cZ ad σ) s.heap.size q := fun q h => Or.inr h
  generalize va_A (wo cI cL cZ ad σ) s.heap.size = A at hD hS hA hZ ⊢
  have hl := lv_entry ([.ref (ad 1), .int a1, .int a2, .int a3]) (n := 5) (Nat.le_of_ble_eq_true rfl)
  rw [lg_entry_eq]
  generalize (lg_sl ([.ref (ad 1), .int a1, .int a2, .int a3]) ++ List.replicate (5 - (lg_sl ([.ref (ad 1), .int a1, .int a2, .int a3])).length) Slot.unset).toArray = ls at hl ⊢
  have hl : lv_has ls 5 [(0, .ref (ad 1)), (1, .int a1), (2, .int a2), (3, .int a3)] := hl
  have key : ∀ n : Nat, (∀ {x1 x2 x3 : Int32} {σ : tq_S} {H : Heap} {locs : List Loc} {ls : Array Slot}, va_P (dC, dI) tq_cl (wo cI cL cZ ad σ) H → va_D A (wo cI cL cZ ad σ) → va_S A s.heap H locs → lv_has ls 5 [(0, .ref (ad 1)), (1, .int x1), (2, .int x2), (3, .int x3)] → tq_go st_Co_make n (0, [x1, x2, x3], [], σ) = some (tq_rt, [r], [], σ') → W p l e (headSpec w_Co_make ({ frames := 4, cells := 0, slots := 0, locals := 98 } : Room)).room s m ([.ref (ad 1), .int a1, .int a2, .int a3] : List Value).toArray below meth c H locs 0 0 (MQ below (va_Qi (fun (r' : Int32) (u : tq_S) => r' = r ∧ u = σ') (tq_E dC dI cI cL cZ (wo cI cL cZ ad) A) A) ([.ref (ad 1), .int a1, .int a2, .int a3] : List Value).toArray s 0 0 A) (F0 m 0 ls [])) := by
    intro n
    induction n with
    | zero => exact fun _ _ _ _ h => by cases h
    | succ n ih =>
      intro x1 x2 x3 σ H locs ls hP hD hS hl h9
      obtain ⟨q9, hg, hn⟩ := tq_go_s h9 (show ¬ (0 : Nat) = tq_rt by decide)
      replace hg : bk_Co_make_0 [x1, x2, x3] [] σ = some q9 := hg
      unfold bk_Co_make_0 at hg
      refine lv_aload_n hx hb d_Co_make_0 rfl (lv_at hl 0 rfl) ?_
      refine lv_iload_n hx hb d_Co_make_1 rfl (lv_at hl 1 rfl) ?_
      refine lv_iload_n hx hb d_Co_make_2 rfl (lv_at hl 2 rfl) ?_
      refine lv_iload_n hx hb d_Co_make_3 rfl (lv_at hl 3 rfl) ?_
      obtain ⟨r2, σ3, f1, hg⟩ := tq_ob_s hg
      refine tq_aI (va_runV (As := [.int x1, .int x2, .int x3]) (rest := []) ⟨hx, hb, hml, hown, hts⟩ (c_Co_find l dC dI cI cL cZ ad tt H.size σ x1 x2 x3  r2 σ3 f1) (cwV 3 hts (tq_gV tw_29 tw_31 ts_0 tw_2 tw_32) rfl rfl rfl (by decide +kernel) ⟨Nat.le_of_ble_eq_true rfl, Nat.le_of_ble_eq_true rfl⟩) ⟨tq_bl, va_recv hK hP (ci := 1) (q0 := 1) rfl rfl, (tq_pr hP hK hD hS hA hZ hN)⟩ rfl rfl hl.1 rfl (lv_room (Nat.le_of_ble_eq_true rfl)) d_Co_make_4 ⟨Nat.zero_le _, Nat.zero_le _⟩) hD hS hA (fun H locs hP hD hS => ?_)
      refine lv_istore (lv' := [(4, .int r2), (0, .ref (ad 1)), (1, .int x1), (2, .int x2), (3, .int x3)]) hx hb d_Co_make_7 hl (by decide) rfl (fun ls hl => ?_)
      refine lv_iload hx hb d_Co_make_9 (lv_at hl 0 rfl) ?_
      refine lv_iconst (v := (-1)) hx hb d_Co_make_11 (by decide) ?_
      refine lv_icmp_ne (tgt := 25) hx hb d_Co_make_12 (by decide) (fun c4 => ?_) (fun c4 => ?_)
      · replace hg := tq_if_t c4 hg
        refine lv_iload hx hb d_Co_make_25 (lv_at hl 0 rfl) ?_
        exact W.iret (v := r2) hx hb hr (fun t ht hW => ⟨⟨r2, σ3, rfl, tq_grI hg hn, by rw [ht]; exact hP, va_K.moved hW.alike hK, hD⟩, hS.F ht⟩) hS.2.2 d_Co_make_27
      · replace hg := tq_if_n c4 hg
        refine lv_aload_n hx hb d_Co_make_15 rfl (lv_at hl 1 rfl) ?_
        refine lv_iload_n hx hb d_Co_make_16 rfl (lv_at hl 2 rfl) ?_
        refine lv_iload_n hx hb d_Co_make_17 rfl (lv_at hl 3 rfl) ?_
        refine lv_iload_n hx hb d_Co_make_18 rfl (lv_at hl 4 rfl) ?_
        obtain ⟨r6, σ7, f5, hg⟩ := tq_ob_s hg
        refine tq_aI (va_runV (As := [.int x1, .int x2, .int x3]) (rest := []) ⟨hx, hb, hml, hown, hts⟩ (c_Co_add l dC dI cI cL cZ ad tt H.size σ3 x1 x2 x3  r6 σ7 f5) (cwV 3 hts (tq_gV tw_33 tw_35 ts_1 tw_2 tw_36) rfl rfl rfl (by decide +kernel) ⟨Nat.le_of_ble_eq_true rfl, Nat.le_of_ble_eq_true rfl⟩) ⟨tq_bl, va_recv hK hP (ci := 1) (q0 := 1) rfl rfl, (tq_pr hP hK hD hS hA hZ hN)⟩ rfl rfl hl.1 rfl (lv_room (Nat.le_of_ble_eq_true rfl)) d_Co_make_19 ⟨Nat.zero_le _, Nat.zero_le _⟩) hD hS hA (fun H locs hP hD hS => ?_)
        refine lv_goto (tgt := 27) hx hb d_Co_make_22 (by decide) ?_
        exact W.iret (v := r6) hx hb hr (fun t ht hW => ⟨⟨r6, σ7, rfl, tq_grI hg hn, by rw [ht]; exact hP, va_K.moved hW.alike hK, hD⟩, hS.F ht⟩) hS.2.2 d_Co_make_27
  exact (key n0) hP hD hS hl h0
noncomputable def bk_Co_isThere_0 : List Int32 → List Int64 → tq_S → Option tq_C
  | [x1], [], σ => if x1 < 0 then some (tq_rt, [0], [], σ) else if (σ.2.2 0) ≤ x1 then some (tq_rt, [0], [], σ) else some (tq_rt, [1], [], σ)
  | _, _, _ => none
noncomputable def st_Co_isThere (c : tq_C) : Option tq_C := if c.1 = 0 then bk_Co_isThere_0 c.2.1 c.2.2.1 c.2.2.2 else none
set_option maxHeartbeats 40000000 in
set_option maxRecDepth 100000 in
theorem c_Co_isThere (l : Launch) (dC : Nat → ClassId) (dI : Nat → Nat → Nat) (cI cL cZ : ClassId) (ad : Nat → Nat) (tt : Nat) (sz : Nat) (σ : tq_S) (a1 : Int32) (r : Int32) (σ' : tq_S) (hf : tq_fI st_Co_isThere (0, [a1], [], σ) = some (r, σ')) : Met l y_Co_isThere w_Co_isThere ({ frames := 0, cells := 0, slots := 0, locals := 0 } : Room) (va_Pc [.ref (ad 1), .int a1] (tq_B dC dI cI cL cZ tt (wo cI cL cZ ad σ) sz)) (va_Qi (fun (r' : Int32) (u : tq_S) => r' = r ∧ u = σ') (tq_E dC dI cI cL cZ (wo cI cL cZ ad) (va_A (wo cI cL cZ ad σ) sz)) (va_A (wo cI cL cZ ad σ) sz)) 0 0 (va_A (wo cI cL cZ ad σ) sz) := by
  obtain ⟨n0, h0⟩ := tq_fI_to hf
  refine Met.ofW (cc := prog_2_method_7_code) (maxL := 2) (ret := (some .boolean)) (by decide) rfl ?_
  intro p e s m args below meth c s₁ B hml hv
  obtain ⟨rfl, hsz, hP, hK, hD0, hZ, hN⟩ := hv
  have hx := B.exec
  have hb := B.bytes
  have hr := B.returns
  have hts : ∀ w ∈ tq_T, w.before _ s = true := fun w h => atoms_spec (ws := w_Co_isThere) B.pre w (List.mem_cons_of_mem _ h)
  have hown : s.vm.findClass "TableauNodes$Concepts" = some m.cls := findClass_of_methodNamed B.named
  have hlocks := B.notSynchronized
  subst hsz
  have hD := hD0.self (sz := s.heap.size)
  have hS : va_S (va_A (wo cI cL cZ ad σ) s.heap.size) s.heap s.heap [] := va_S.rf
  have hA : ∀ q : Nat, s.heap.size ≤ q → va_A (wo cI cL cZ ad σ) s.heap.size q := fun q h => Or.inr h
  generalize va_A (wo cI cL cZ ad σ) s.heap.size = A at hD hS hA hZ ⊢
  have hl := lv_entry ([.ref (ad 1), .int a1]) (n := 2) (Nat.le_of_ble_eq_true rfl)
  rw [lg_entry_eq]
  generalize (lg_sl ([.ref (ad 1), .int a1]) ++ List.replicate (2 - (lg_sl ([.ref (ad 1), .int a1])).length) Slot.unset).toArray = ls at hl ⊢
  have hl : lv_has ls 2 [(0, .ref (ad 1)), (1, .int a1)] := hl
  have key : ∀ n : Nat, (∀ {x1 : Int32} {σ : tq_S} {H : Heap} {locs : List Loc} {ls : Array Slot}, va_P (dC, dI) tq_cl (wo cI cL cZ ad σ) H → va_D A (wo cI cL cZ ad σ) → va_S A s.heap H locs → lv_has ls 2 [(0, .ref (ad 1)), (1, .int x1)] → tq_go st_Co_isThere n (0, [x1], [], σ) = some (tq_rt, [r], [], σ') → W p l e (headSpec w_Co_isThere ({ frames := 0, cells := 0, slots := 0, locals := 0 } : Room)).room s m ([.ref (ad 1), .int a1] : List Value).toArray below meth c H locs 0 0 (MQ below (va_Qi (fun (r' : Int32) (u : tq_S) => r' = r ∧ u = σ') (tq_E dC dI cI cL cZ (wo cI cL cZ ad) A) A) ([.ref (ad 1), .int a1] : List Value).toArray s 0 0 A) (F0 m 0 ls [])) := by
    intro n
    induction n with
    | zero => exact fun _ _ _ _ h => by cases h
    | succ n ih =>
      intro x1 σ H locs ls hP hD hS hl h9
      obtain ⟨q9, hg, hn⟩ := tq_go_s h9 (show ¬ (0 : Nat) = tq_rt by decide)
      replace hg : bk_Co_isThere_0 [x1] [] σ = some q9 := hg
      unfold bk_Co_isThere_0 at hg
      refine lv_iload_n hx hb d_Co_isThere_0 rfl (lv_at hl 1 rfl) ?_
      refine lv_if_lt (tgt := 16) hx hb d_Co_isThere_1 (by decide) (fun c1 => ?_) (fun c1 => ?_)
      · replace hg := tq_if_t c1 hg
        refine lv_iconst (v := 0) hx hb d_Co_isThere_16 (by decide) ?_
        exact W.zret (v := 0) hx hb hr rfl (fun t ht hW => ⟨⟨0, σ, rfl, tq_grI hg hn, by rw [ht]; exact hP, va_K.moved hW.alike hK, hD⟩, hS.F ht⟩) hS.2.2 d_Co_isThere_17
      · replace hg := tq_if_f c1 hg
        refine lv_iload_n hx hb d_Co_isThere_4 rfl (lv_at hl 1 rfl) ?_
        refine lv_aload_n hx hb d_Co_isThere_5 rfl (lv_at hl 0 rfl) ?_
        refine va_get (D := (dC, dI)) (ci := 1) (v := .int (σ.2.2 0)) (C := "TableauNodes$Concepts") (T := F_Co) (N := 9) hx hb hts in_Co hown hK hP 1 rfl rfl 7 (by decide) (hts _ tw_70) (fun _ h9 => h9) rfl d_Co_isThere_6 ?_
        refine lv_icmp_ge (tgt := 16) hx hb d_Co_isThere_9 (by decide) (fun c2 => ?_) (fun c2 => ?_)
        · replace hg := tq_if_t c2 hg
          refine lv_iconst (v := 0) hx hb d_Co_isThere_16 (by decide) ?_
          exact W.zret (v := 0) hx hb hr rfl (fun t ht hW => ⟨⟨0, σ, rfl, tq_grI hg hn, by rw [ht]; exact hP, va_K.moved hW.alike hK, hD⟩, hS.F ht⟩) hS.2.2 d_Co_isThere_17
        · replace hg := tq_if_f c2 hg
          refine lv_iconst (v := 1) hx hb d_Co_isThere_12 (by decide) ?_
          refine lv_goto (tgt := 17) hx hb d_Co_isThere_13 (by decide) ?_
          exact W.zret (v := 1) hx hb hr rfl (fun t ht hW => ⟨⟨1, σ, rfl, tq_grI hg hn, by rw [ht]; exact hP, va_K.moved hW.alike hK, hD⟩, hS.F ht⟩) hS.2.2 d_Co_isThere_17
  exact (key n0) hP hD hS hl h0
