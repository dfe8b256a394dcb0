theorem d_Go_begin_0 : decode prog_3_method_15_code 0 = .ok (.aload_n 0, 1) := by decide +kernel
theorem d_Go_begin_1 : decode prog_3_method_15_code 1 = .ok (.getfield 41, 3) := by decide +kernel
theorem d_Go_begin_4 : decode prog_3_method_15_code 4 = .ok (.invokevirtual 106, 3) := by decide +kernel
theorem d_Go_begin_7 : decode prog_3_method_15_code 7 = .ok (.istore_n 1, 1) := by decide +kernel
theorem d_Go_begin_8 : decode prog_3_method_15_code 8 = .ok (.iconst 0, 1) := by decide +kernel
theorem d_Go_begin_9 : decode prog_3_method_15_code 9 = .ok (.istore_n 2, 1) := by decide +kernel
theorem d_Go_begin_10 : decode prog_3_method_15_code 10 = .ok (.iload_n 2, 1) := by decide +kernel
theorem d_Go_begin_11 : decode prog_3_method_15_code 11 = .ok (.bipush 16, 2) := by decide +kernel
theorem d_Go_begin_13 : decode prog_3_method_15_code 13 = .ok (.if_icmp .ge 36, 3) := by decide +kernel
theorem d_Go_begin_16 : decode prog_3_method_15_code 16 = .ok (.aload_n 0, 1) := by decide +kernel
theorem d_Go_begin_17 : decode prog_3_method_15_code 17 = .ok (.getfield 24, 3) := by decide +kernel
theorem d_Go_begin_20 : decode prog_3_method_15_code 20 = .ok (.iload_n 2, 1) := by decide +kernel
theorem d_Go_begin_21 : decode prog_3_method_15_code 21 = .ok (.iload_n 2, 1) := by decide +kernel
theorem d_Go_begin_22 : decode prog_3_method_15_code 22 = .ok (.iload_n 1, 1) := by decide +kernel
theorem d_Go_begin_23 : decode prog_3_method_15_code 23 = .ok (.if_icmp .ge 18, 3) := by decide +kernel
theorem d_Go_begin_26 : decode prog_3_method_15_code 26 = .ok (.aload_n 0, 1) := by decide +kernel
theorem d_Go_begin_27 : decode prog_3_method_15_code 27 = .ok (.aload_n 0, 1) := by decide +kernel
theorem d_Go_begin_28 : decode prog_3_method_15_code 28 = .ok (.getfield 41, 3) := by decide +kernel
theorem d_Go_begin_31 : decode prog_3_method_15_code 31 = .ok (.invokevirtual 109, 3) := by decide +kernel
theorem d_Go_begin_34 : decode prog_3_method_15_code 34 = .ok (.iload_n 2, 1) := by decide +kernel
theorem d_Go_begin_35 : decode prog_3_method_15_code 35 = .ok (.invokevirtual 113, 3) := by decide +kernel
theorem d_Go_begin_38 : decode prog_3_method_15_code 38 = .ok (.goto 4, 3) := by decide +kernel
theorem d_Go_begin_41 : decode prog_3_method_15_code 41 = .ok (.lconst 0, 1) := by decide +kernel
theorem d_Go_begin_42 : decode prog_3_method_15_code 42 = .ok (.lastore, 1) := by decide +kernel
theorem d_Go_begin_43 : decode prog_3_method_15_code 43 = .ok (.iinc 2 1, 3) := by decide +kernel
theorem d_Go_begin_46 : decode prog_3_method_15_code 46 = .ok (.goto (-36), 3) := by decide +kernel
theorem d_Go_begin_49 : decode prog_3_method_15_code 49 = .ok (.aload_n 0, 1) := by decide +kernel
theorem d_Go_begin_50 : decode prog_3_method_15_code 50 = .ok (.getfield 41, 3) := by decide +kernel
theorem d_Go_begin_53 : decode prog_3_method_15_code 53 = .ok (.invokevirtual 117, 3) := by decide +kernel
theorem d_Go_begin_56 : decode prog_3_method_15_code 56 = .ok (.istore_n 2, 1) := by decide +kernel
theorem d_Go_begin_57 : decode prog_3_method_15_code 57 = .ok (.iconst 0, 1) := by decide +kernel
theorem d_Go_begin_58 : decode prog_3_method_15_code 58 = .ok (.istore_n 3, 1) := by decide +kernel
theorem d_Go_begin_59 : decode prog_3_method_15_code 59 = .ok (.iload_n 3, 1) := by decide +kernel
theorem d_Go_begin_60 : decode prog_3_method_15_code 60 = .ok (.iload_n 2, 1) := by decide +kernel
theorem d_Go_begin_61 : decode prog_3_method_15_code 61 = .ok (.if_icmp .ge 36, 3) := by decide +kernel
theorem d_Go_begin_64 : decode prog_3_method_15_code 64 = .ok (.iload_n 3, 1) := by decide +kernel
theorem d_Go_begin_65 : decode prog_3_method_15_code 65 = .ok (.sipush 1024, 3) := by decide +kernel
theorem d_Go_begin_68 : decode prog_3_method_15_code 68 = .ok (.if_icmp .ge 29, 3) := by decide +kernel
theorem d_Go_begin_71 : decode prog_3_method_15_code 71 = .ok (.aload_n 0, 1) := by decide +kernel
theorem d_Go_begin_72 : decode prog_3_method_15_code 72 = .ok (.getfield 31, 3) := by decide +kernel
theorem d_Go_begin_75 : decode prog_3_method_15_code 75 = .ok (.iload_n 3, 1) := by decide +kernel
theorem d_Go_begin_76 : decode prog_3_method_15_code 76 = .ok (.aload_n 0, 1) := by decide +kernel
theorem d_Go_begin_77 : decode prog_3_method_15_code 77 = .ok (.iload_n 3, 1) := by decide +kernel
theorem d_Go_begin_78 : decode prog_3_method_15_code 78 = .ok (.invokevirtual 120, 3) := by decide +kernel
theorem d_Go_begin_81 : decode prog_3_method_15_code 81 = .ok (.ifCond .eq 7, 3) := by decide +kernel
theorem d_Go_begin_84 : decode prog_3_method_15_code 84 = .ok (.iconst 0, 1) := by decide +kernel
theorem d_Go_begin_85 : decode prog_3_method_15_code 85 = .ok (.goto 5, 3) := by decide +kernel
theorem d_Go_begin_88 : decode prog_3_method_15_code 88 = .ok (.bipush (-2), 2) := by decide +kernel
theorem d_Go_begin_90 : decode prog_3_method_15_code 90 = .ok (.iastore, 1) := by decide +kernel
theorem d_Go_begin_91 : decode prog_3_method_15_code 91 = .ok (.iinc 3 1, 3) := by decide +kernel
theorem d_Go_begin_94 : decode prog_3_method_15_code 94 = .ok (.goto (-35), 3) := by decide +kernel
theorem d_Go_begin_97 : decode prog_3_method_15_code 97 = .ok (.return_, 1) := by decide +kernel
theorem d_Go_spreadServed_0 : decode prog_3_method_22_code 0 = .ok (.iconst 0, 1) := by decide +kernel
theorem d_Go_spreadServed_1 : decode prog_3_method_22_code 1 = .ok (.istore 4, 2) := by decide +kernel
theorem d_Go_spreadServed_3 : decode prog_3_method_22_code 3 = .ok (.iconst 0, 1) := by decide +kernel
theorem d_Go_spreadServed_4 : decode prog_3_method_22_code 4 = .ok (.istore 5, 2) := by decide +kernel
theorem d_Go_spreadServed_6 : decode prog_3_method_22_code 6 = .ok (.iload 4, 2) := by decide +kernel
theorem d_Go_spreadServed_8 : decode prog_3_method_22_code 8 = .ok (.iload_n 2, 1) := by decide +kernel
theorem d_Go_spreadServed_9 : decode prog_3_method_22_code 9 = .ok (.if_icmp .ge 45, 3) := by decide +kernel
theorem d_Go_spreadServed_12 : decode prog_3_method_22_code 12 = .ok (.iload 5, 2) := by decide +kernel
theorem d_Go_spreadServed_14 : decode prog_3_method_22_code 14 = .ok (.iload_n 3, 1) := by decide +kernel
theorem d_Go_spreadServed_15 : decode prog_3_method_22_code 15 = .ok (.iand, 1) := by decide +kernel
theorem d_Go_spreadServed_16 : decode prog_3_method_22_code 16 = .ok (.ifCond .eq 24, 3) := by decide +kernel
theorem d_Go_spreadServed_19 : decode prog_3_method_22_code 19 = .ok (.aload_n 0, 1) := by decide +kernel
theorem d_Go_spreadServed_20 : decode prog_3_method_22_code 20 = .ok (.getfield 34, 3) := by decide +kernel
theorem d_Go_spreadServed_23 : decode prog_3_method_22_code 23 = .ok (.iload 5, 2) := by decide +kernel
theorem d_Go_spreadServed_25 : decode prog_3_method_22_code 25 = .ok (.dup2, 1) := by decide +kernel
theorem d_Go_spreadServed_26 : decode prog_3_method_22_code 26 = .ok (.iaload, 1) := by decide +kernel
theorem d_Go_spreadServed_27 : decode prog_3_method_22_code 27 = .ok (.aload_n 0, 1) := by decide +kernel
theorem d_Go_spreadServed_28 : decode prog_3_method_22_code 28 = .ok (.getfield 34, 3) := by decide +kernel
theorem d_Go_spreadServed_31 : decode prog_3_method_22_code 31 = .ok (.iload 5, 2) := by decide +kernel
theorem d_Go_spreadServed_33 : decode prog_3_method_22_code 33 = .ok (.iload_n 3, 1) := by decide +kernel
theorem d_Go_spreadServed_34 : decode prog_3_method_22_code 34 = .ok (.iconst (-1), 1) := by decide +kernel
theorem d_Go_spreadServed_35 : decode prog_3_method_22_code 35 = .ok (.ixor, 1) := by decide +kernel
theorem d_Go_spreadServed_36 : decode prog_3_method_22_code 36 = .ok (.iand, 1) := by decide +kernel
theorem d_Go_spreadServed_37 : decode prog_3_method_22_code 37 = .ok (.iaload, 1) := by decide +kernel
theorem d_Go_spreadServed_38 : decode prog_3_method_22_code 38 = .ok (.ior, 1) := by decide +kernel
theorem d_Go_spreadServed_39 : decode prog_3_method_22_code 39 = .ok (.iastore, 1) := by decide +kernel
theorem d_Go_spreadServed_40 : decode prog_3_method_22_code 40 = .ok (.iinc 4 1, 3) := by decide +kernel
theorem d_Go_spreadServed_43 : decode prog_3_method_22_code 43 = .ok (.iload 5, 2) := by decide +kernel
theorem d_Go_spreadServed_45 : decode prog_3_method_22_code 45 = .ok (.iload_n 1, 1) := by decide +kernel
theorem d_Go_spreadServed_46 : decode prog_3_method_22_code 46 = .ok (.isub, 1) := by decide +kernel
theorem d_Go_spreadServed_47 : decode prog_3_method_22_code 47 = .ok (.iload_n 1, 1) := by decide +kernel
theorem d_Go_spreadServed_48 : decode prog_3_method_22_code 48 = .ok (.iand, 1) := by decide +kernel
theorem d_Go_spreadServed_49 : decode prog_3_method_22_code 49 = .ok (.istore 5, 2) := by decide +kernel
theorem d_Go_spreadServed_51 : decode prog_3_method_22_code 51 = .ok (.goto (-45), 3) := by decide +kernel
theorem d_Go_spreadServed_54 : decode prog_3_method_22_code 54 = .ok (.return_, 1) := by decide +kernel
theorem d_Go_findServed_0 : decode prog_3_method_21_code 0 = .ok (.aload_n 0, 1) := by decide +kernel
theorem d_Go_findServed_1 : decode prog_3_method_21_code 1 = .ok (.getfield 21, 3) := by decide +kernel
theorem d_Go_findServed_4 : decode prog_3_method_21_code 4 = .ok (.iload_n 1, 1) := by decide +kernel
theorem d_Go_findServed_5 : decode prog_3_method_21_code 5 = .ok (.iaload, 1) := by decide +kernel
theorem d_Go_findServed_6 : decode prog_3_method_21_code 6 = .ok (.sipush 1023, 3) := by decide +kernel
theorem d_Go_findServed_9 : decode prog_3_method_21_code 9 = .ok (.iand, 1) := by decide +kernel
theorem d_Go_findServed_10 : decode prog_3_method_21_code 10 = .ok (.istore_n 2, 1) := by decide +kernel
theorem d_Go_findServed_11 : decode prog_3_method_21_code 11 = .ok (.iconst 1, 1) := by decide +kernel
theorem d_Go_findServed_12 : decode prog_3_method_21_code 12 = .ok (.iload_n 2, 1) := by decide +kernel
theorem d_Go_findServed_13 : decode prog_3_method_21_code 13 = .ok (.invokestatic 141, 3) := by decide +kernel
theorem d_Go_findServed_16 : decode prog_3_method_21_code 16 = .ok (.ishl, 1) := by decide +kernel
theorem d_Go_findServed_17 : decode prog_3_method_21_code 17 = .ok (.istore_n 3, 1) := by decide +kernel
theorem d_Go_findServed_18 : decode prog_3_method_21_code 18 = .ok (.iconst 0, 1) := by decide +kernel
theorem d_Go_findServed_19 : decode prog_3_method_21_code 19 = .ok (.istore 4, 2) := by decide +kernel
theorem d_Go_findServed_21 : decode prog_3_method_21_code 21 = .ok (.iconst 0, 1) := by decide +kernel
theorem d_Go_findServed_22 : decode prog_3_method_21_code 22 = .ok (.istore 5, 2) := by decide +kernel
theorem d_Go_findServed_24 : decode prog_3_method_21_code 24 = .ok (.iload 4, 2) := by decide +kernel
theorem d_Go_findServed_26 : decode prog_3_method_21_code 26 = .ok (.iload_n 3, 1) := by decide +kernel
theorem d_Go_findServed_27 : decode prog_3_method_21_code 27 = .ok (.if_icmp .ge 25, 3) := by decide +kernel
theorem d_Go_findServed_30 : decode prog_3_method_21_code 30 = .ok (.aload_n 0, 1) := by decide +kernel
theorem d_Go_findServed_31 : decode prog_3_method_21_code 31 = .ok (.getfield 34, 3) := by decide +kernel
theorem d_Go_findServed_34 : decode prog_3_method_21_code 34 = .ok (.iload 5, 2) := by decide +kernel
theorem d_Go_findServed_36 : decode prog_3_method_21_code 36 = .ok (.iconst 0, 1) := by decide +kernel
theorem d_Go_findServed_37 : decode prog_3_method_21_code 37 = .ok (.iastore, 1) := by decide +kernel
theorem d_Go_findServed_38 : decode prog_3_method_21_code 38 = .ok (.iinc 4 1, 3) := by decide +kernel
theorem d_Go_findServed_41 : decode prog_3_method_21_code 41 = .ok (.iload 5, 2) := by decide +kernel
theorem d_Go_findServed_43 : decode prog_3_method_21_code 43 = .ok (.iload_n 2, 1) := by decide +kernel
theorem d_Go_findServed_44 : decode prog_3_method_21_code 44 = .ok (.isub, 1) := by decide +kernel
theorem d_Go_findServed_45 : decode prog_3_method_21_code 45 = .ok (.iload_n 2, 1) := by decide +kernel
theorem d_Go_findServed_46 : decode prog_3_method_21_code 46 = .ok (.iand, 1) := by decide +kernel
theorem d_Go_findServed_47 : decode prog_3_method_21_code 47 = .ok (.istore 5, 2) := by decide +kernel
theorem d_Go_findServed_49 : decode prog_3_method_21_code 49 = .ok (.goto (-25), 3) := by decide +kernel
theorem d_Go_findServed_52 : decode prog_3_method_21_code 52 = .ok (.aload_n 0, 1) := by decide +kernel
theorem d_Go_findServed_53 : decode prog_3_method_21_code 53 = .ok (.getfield 41, 3) := by decide +kernel
theorem d_Go_findServed_56 : decode prog_3_method_21_code 56 = .ok (.invokevirtual 117, 3) := by decide +kernel
theorem d_Go_findServed_59 : decode prog_3_method_21_code 59 = .ok (.istore 4, 2) := by decide +kernel
theorem d_Go_findServed_61 : decode prog_3_method_21_code 61 = .ok (.iconst 0, 1) := by decide +kernel
theorem d_Go_findServed_62 : decode prog_3_method_21_code 62 = .ok (.istore 5, 2) := by decide +kernel
theorem d_Go_findServed_64 : decode prog_3_method_21_code 64 = .ok (.iload 5, 2) := by decide +kernel
theorem d_Go_findServed_66 : decode prog_3_method_21_code 66 = .ok (.iload 4, 2) := by decide +kernel
theorem d_Go_findServed_68 : decode prog_3_method_21_code 68 = .ok (.if_icmp .ge 58, 3) := by decide +kernel
theorem d_Go_findServed_71 : decode prog_3_method_21_code 71 = .ok (.iload 5, 2) := by decide +kernel
theorem d_Go_findServed_73 : decode prog_3_method_21_code 73 = .ok (.sipush 1024, 3) := by decide +kernel
theorem d_Go_findServed_76 : decode prog_3_method_21_code 76 = .ok (.if_icmp .ge 50, 3) := by decide +kernel
theorem d_Go_findServed_79 : decode prog_3_method_21_code 79 = .ok (.aload_n 0, 1) := by decide +kernel
theorem d_Go_findServed_80 : decode prog_3_method_21_code 80 = .ok (.iload 5, 2) := by decide +kernel
theorem d_Go_findServed_82 : decode prog_3_method_21_code 82 = .ok (.invokevirtual 120, 3) := by decide +kernel
theorem d_Go_findServed_85 : decode prog_3_method_21_code 85 = .ok (.ifCond .eq 35, 3) := by decide +kernel
theorem d_Go_findServed_88 : decode prog_3_method_21_code 88 = .ok (.aload_n 0, 1) := by decide +kernel
theorem d_Go_findServed_89 : decode prog_3_method_21_code 89 = .ok (.getfield 41, 3) := by decide +kernel
theorem d_Go_findServed_92 : decode prog_3_method_21_code 92 = .ok (.iload 5, 2) := by decide +kernel
theorem d_Go_findServed_94 : decode prog_3_method_21_code 94 = .ok (.invokevirtual 145, 3) := by decide +kernel
theorem d_Go_findServed_97 : decode prog_3_method_21_code 97 = .ok (.istore 6, 2) := by decide +kernel
theorem d_Go_findServed_99 : decode prog_3_method_21_code 99 = .ok (.aload_n 0, 1) := by decide +kernel
theorem d_Go_findServed_100 : decode prog_3_method_21_code 100 = .ok (.getfield 34, 3) := by decide +kernel
theorem d_Go_findServed_103 : decode prog_3_method_21_code 103 = .ok (.iload 6, 2) := by decide +kernel
theorem d_Go_findServed_105 : decode prog_3_method_21_code 105 = .ok (.iload_n 2, 1) := by decide +kernel
theorem d_Go_findServed_106 : decode prog_3_method_21_code 106 = .ok (.iand, 1) := by decide +kernel
theorem d_Go_findServed_107 : decode prog_3_method_21_code 107 = .ok (.dup2, 1) := by decide +kernel
theorem d_Go_findServed_108 : decode prog_3_method_21_code 108 = .ok (.iaload, 1) := by decide +kernel
theorem d_Go_findServed_109 : decode prog_3_method_21_code 109 = .ok (.iload 6, 2) := by decide +kernel
theorem d_Go_findServed_111 : decode prog_3_method_21_code 111 = .ok (.aload_n 0, 1) := by decide +kernel
theorem d_Go_findServed_112 : decode prog_3_method_21_code 112 = .ok (.getfield 18, 3) := by decide +kernel
theorem d_Go_findServed_115 : decode prog_3_method_21_code 115 = .ok (.iload_n 1, 1) := by decide +kernel
theorem d_Go_findServed_116 : decode prog_3_method_21_code 116 = .ok (.iaload, 1) := by decide +kernel
theorem d_Go_findServed_117 : decode prog_3_method_21_code 117 = .ok (.iand, 1) := by decide +kernel
theorem d_Go_findServed_118 : decode prog_3_method_21_code 118 = .ok (.ior, 1) := by decide +kernel
theorem d_Go_findServed_119 : decode prog_3_method_21_code 119 = .ok (.iastore, 1) := by decide +kernel
theorem d_Go_findServed_120 : decode prog_3_method_21_code 120 = .ok (.iinc 5 1, 3) := by decide +kernel
theorem d_Go_findServed_123 : decode prog_3_method_21_code 123 = .ok (.goto (-59), 3) := by decide +kernel
theorem d_Go_findServed_126 : decode prog_3_method_21_code 126 = .ok (.iconst 0, 1) := by decide +kernel
theorem d_Go_findServed_127 : decode prog_3_method_21_code 127 = .ok (.istore 5, 2) := by decide +kernel
theorem d_Go_findServed_129 : decode prog_3_method_21_code 129 = .ok (.iload 5, 2) := by decide +kernel
theorem d_Go_findServed_131 : decode prog_3_method_21_code 131 = .ok (.bipush 10, 2) := by decide +kernel
theorem d_Go_findServed_133 : decode prog_3_method_21_code 133 = .ok (.if_icmp .ge 29, 3) := by decide +kernel
theorem d_Go_findServed_136 : decode prog_3_method_21_code 136 = .ok (.iload_n 2, 1) := by decide +kernel
theorem d_Go_findServed_137 : decode prog_3_method_21_code 137 = .ok (.i2l, 1) := by decide +kernel
theorem d_Go_findServed_138 : decode prog_3_method_21_code 138 = .ok (.iload 5, 2) := by decide +kernel
theorem d_Go_findServed_140 : decode prog_3_method_21_code 140 = .ok (.invokestatic 123, 3) := by decide +kernel
theorem d_Go_findServed_143 : decode prog_3_method_21_code 143 = .ok (.ifCond .eq 13, 3) := by decide +kernel
theorem d_Go_findServed_146 : decode prog_3_method_21_code 146 = .ok (.aload_n 0, 1) := by decide +kernel
theorem d_Go_findServed_147 : decode prog_3_method_21_code 147 = .ok (.iload_n 2, 1) := by decide +kernel
theorem d_Go_findServed_148 : decode prog_3_method_21_code 148 = .ok (.iload_n 3, 1) := by decide +kernel
theorem d_Go_findServed_149 : decode prog_3_method_21_code 149 = .ok (.iconst 1, 1) := by decide +kernel
theorem d_Go_findServed_150 : decode prog_3_method_21_code 150 = .ok (.iload 5, 2) := by decide +kernel
theorem d_Go_findServed_152 : decode prog_3_method_21_code 152 = .ok (.ishl, 1) := by decide +kernel
theorem d_Go_findServed_153 : decode prog_3_method_21_code 153 = .ok (.invokevirtual 148, 3) := by decide +kernel
theorem d_Go_findServed_156 : decode prog_3_method_21_code 156 = .ok (.iinc 5 1, 3) := by decide +kernel
theorem d_Go_findServed_159 : decode prog_3_method_21_code 159 = .ok (.goto (-30), 3) := by decide +kernel
theorem d_Go_findServed_162 : decode prog_3_method_21_code 162 = .ok (.return_, 1) := by decide +kernel
theorem d_Go_markUnserved_0 : decode prog_3_method_20_code 0 = .ok (.aload_n 0, 1) := by decide +kernel
theorem d_Go_markUnserved_1 : decode prog_3_method_20_code 1 = .ok (.iload_n 1, 1) := by decide +kernel
theorem d_Go_markUnserved_2 : decode prog_3_method_20_code 2 = .ok (.invokevirtual 138, 3) := by decide +kernel
theorem d_Go_markUnserved_5 : decode prog_3_method_20_code 5 = .ok (.aload_n 0, 1) := by decide +kernel
theorem d_Go_markUnserved_6 : decode prog_3_method_20_code 6 = .ok (.getfield 41, 3) := by decide +kernel
theorem d_Go_markUnserved_9 : decode prog_3_method_20_code 9 = .ok (.invokevirtual 117, 3) := by decide +kernel
theorem d_Go_markUnserved_12 : decode prog_3_method_20_code 12 = .ok (.istore_n 2, 1) := by decide +kernel
theorem d_Go_markUnserved_13 : decode prog_3_method_20_code 13 = .ok (.iconst 0, 1) := by decide +kernel
theorem d_Go_markUnserved_14 : decode prog_3_method_20_code 14 = .ok (.istore_n 3, 1) := by decide +kernel
theorem d_Go_markUnserved_15 : decode prog_3_method_20_code 15 = .ok (.iload_n 3, 1) := by decide +kernel
theorem d_Go_markUnserved_16 : decode prog_3_method_20_code 16 = .ok (.iload_n 2, 1) := by decide +kernel
theorem d_Go_markUnserved_17 : decode prog_3_method_20_code 17 = .ok (.if_icmp .ge 69, 3) := by decide +kernel
theorem d_Go_markUnserved_20 : decode prog_3_method_20_code 20 = .ok (.iload_n 3, 1) := by decide +kernel
theorem d_Go_markUnserved_21 : decode prog_3_method_20_code 21 = .ok (.sipush 1024, 3) := by decide +kernel
theorem d_Go_markUnserved_24 : decode prog_3_method_20_code 24 = .ok (.if_icmp .ge 62, 3) := by decide +kernel
theorem d_Go_markUnserved_27 : decode prog_3_method_20_code 27 = .ok (.aload_n 0, 1) := by decide +kernel
theorem d_Go_markUnserved_28 : decode prog_3_method_20_code 28 = .ok (.iload_n 3, 1) := by decide +kernel
theorem d_Go_markUnserved_29 : decode prog_3_method_20_code 29 = .ok (.invokevirtual 120, 3) := by decide +kernel
theorem d_Go_markUnserved_32 : decode prog_3_method_20_code 32 = .ok (.ifCond .eq 48, 3) := by decide +kernel
theorem d_Go_markUnserved_35 : decode prog_3_method_20_code 35 = .ok (.iload_n 3, 1) := by decide +kernel
theorem d_Go_markUnserved_36 : decode prog_3_method_20_code 36 = .ok (.aload_n 0, 1) := by decide +kernel
theorem d_Go_markUnserved_37 : decode prog_3_method_20_code 37 = .ok (.getfield 18, 3) := by decide +kernel
theorem d_Go_markUnserved_40 : decode prog_3_method_20_code 40 = .ok (.iload_n 1, 1) := by decide +kernel
theorem d_Go_markUnserved_41 : decode prog_3_method_20_code 41 = .ok (.iaload, 1) := by decide +kernel
theorem d_Go_markUnserved_42 : decode prog_3_method_20_code 42 = .ok (.iand, 1) := by decide +kernel
theorem d_Go_markUnserved_43 : decode prog_3_method_20_code 43 = .ok (.aload_n 0, 1) := by decide +kernel
theorem d_Go_markUnserved_44 : decode prog_3_method_20_code 44 = .ok (.getfield 34, 3) := by decide +kernel
theorem d_Go_markUnserved_47 : decode prog_3_method_20_code 47 = .ok (.iload_n 3, 1) := by decide +kernel
theorem d_Go_markUnserved_48 : decode prog_3_method_20_code 48 = .ok (.aload_n 0, 1) := by decide +kernel
theorem d_Go_markUnserved_49 : decode prog_3_method_20_code 49 = .ok (.getfield 21, 3) := by decide +kernel
theorem d_Go_markUnserved_52 : decode prog_3_method_20_code 52 = .ok (.iload_n 1, 1) := by decide +kernel
theorem d_Go_markUnserved_53 : decode prog_3_method_20_code 53 = .ok (.iaload, 1) := by decide +kernel
theorem d_Go_markUnserved_54 : decode prog_3_method_20_code 54 = .ok (.iand, 1) := by decide +kernel
theorem d_Go_markUnserved_55 : decode prog_3_method_20_code 55 = .ok (.iaload, 1) := by decide +kernel
theorem d_Go_markUnserved_56 : decode prog_3_method_20_code 56 = .ok (.iconst (-1), 1) := by decide +kernel
theorem d_Go_markUnserved_57 : decode prog_3_method_20_code 57 = .ok (.ixor, 1) := by decide +kernel
theorem d_Go_markUnserved_58 : decode prog_3_method_20_code 58 = .ok (.iand, 1) := by decide +kernel
theorem d_Go_markUnserved_59 : decode prog_3_method_20_code 59 = .ok (.ifCond .eq 21, 3) := by decide +kernel
theorem d_Go_markUnserved_62 : decode prog_3_method_20_code 62 = .ok (.aload_n 0, 1) := by decide +kernel
theorem d_Go_markUnserved_63 : decode prog_3_method_20_code 63 = .ok (.getfield 28, 3) := by decide +kernel
theorem d_Go_markUnserved_66 : decode prog_3_method_20_code 66 = .ok (.iload_n 3, 1) := by decide +kernel
theorem d_Go_markUnserved_67 : decode prog_3_method_20_code 67 = .ok (.bipush 64, 2) := by decide +kernel
theorem d_Go_markUnserved_69 : decode prog_3_method_20_code 69 = .ok (.idiv, 1) := by decide +kernel
theorem d_Go_markUnserved_70 : decode prog_3_method_20_code 70 = .ok (.dup2, 1) := by decide +kernel
theorem d_Go_markUnserved_71 : decode prog_3_method_20_code 71 = .ok (.laload, 1) := by decide +kernel
theorem d_Go_markUnserved_72 : decode prog_3_method_20_code 72 = .ok (.lconst 1, 1) := by decide +kernel
theorem d_Go_markUnserved_73 : decode prog_3_method_20_code 73 = .ok (.iload_n 3, 1) := by decide +kernel
theorem d_Go_markUnserved_74 : decode prog_3_method_20_code 74 = .ok (.bipush 64, 2) := by decide +kernel
theorem d_Go_markUnserved_76 : decode prog_3_method_20_code 76 = .ok (.irem, 1) := by decide +kernel
theorem d_Go_markUnserved_77 : decode prog_3_method_20_code 77 = .ok (.lshl, 1) := by decide +kernel
theorem d_Go_markUnserved_78 : decode prog_3_method_20_code 78 = .ok (.lor, 1) := by decide +kernel
theorem d_Go_markUnserved_79 : decode prog_3_method_20_code 79 = .ok (.lastore, 1) := by decide +kernel
theorem d_Go_markUnserved_80 : decode prog_3_method_20_code 80 = .ok (.iinc 3 1, 3) := by decide +kernel
theorem d_Go_markUnserved_83 : decode prog_3_method_20_code 83 = .ok (.goto (-68), 3) := by decide +kernel
theorem d_Go_markUnserved_86 : decode prog_3_method_20_code 86 = .ok (.return_, 1) := by decide +kernel
theorem d_Go_takeAway_0 : decode prog_3_method_19_code 0 = .ok (.aload_n 0, 1) := by decide +kernel
theorem d_Go_takeAway_1 : decode prog_3_method_19_code 1 = .ok (.getfield 28, 3) := by decide +kernel
theorem d_Go_takeAway_4 : decode prog_3_method_19_code 4 = .ok (.iload_n 1, 1) := by decide +kernel
theorem d_Go_takeAway_5 : decode prog_3_method_19_code 5 = .ok (.laload, 1) := by decide +kernel
theorem d_Go_takeAway_6 : decode prog_3_method_19_code 6 = .ok (.lstore_n 3, 1) := by decide +kernel
theorem d_Go_takeAway_7 : decode prog_3_method_19_code 7 = .ok (.lload_n 3, 1) := by decide +kernel
theorem d_Go_takeAway_8 : decode prog_3_method_19_code 8 = .ok (.invokestatic 78, 3) := by decide +kernel
theorem d_Go_takeAway_11 : decode prog_3_method_19_code 11 = .ok (.istore 5, 2) := by decide +kernel
theorem d_Go_takeAway_13 : decode prog_3_method_19_code 13 = .ok (.iload 5, 2) := by decide +kernel
theorem d_Go_takeAway_15 : decode prog_3_method_19_code 15 = .ok (.ifCond .le 30, 3) := by decide +kernel
theorem d_Go_takeAway_18 : decode prog_3_method_19_code 18 = .ok (.aload_n 0, 1) := by decide +kernel
theorem d_Go_takeAway_19 : decode prog_3_method_19_code 19 = .ok (.getfield 31, 3) := by decide +kernel
theorem d_Go_takeAway_22 : decode prog_3_method_19_code 22 = .ok (.iload_n 1, 1) := by decide +kernel
theorem d_Go_takeAway_23 : decode prog_3_method_19_code 23 = .ok (.bipush 64, 2) := by decide +kernel
theorem d_Go_takeAway_25 : decode prog_3_method_19_code 25 = .ok (.imul, 1) := by decide +kernel
theorem d_Go_takeAway_26 : decode prog_3_method_19_code 26 = .ok (.lload_n 3, 1) := by decide +kernel
theorem d_Go_takeAway_27 : decode prog_3_method_19_code 27 = .ok (.invokestatic 135, 3) := by decide +kernel
theorem d_Go_takeAway_30 : decode prog_3_method_19_code 30 = .ok (.iadd, 1) := by decide +kernel
theorem d_Go_takeAway_31 : decode prog_3_method_19_code 31 = .ok (.iload_n 2, 1) := by decide +kernel
theorem d_Go_takeAway_32 : decode prog_3_method_19_code 32 = .ok (.iastore, 1) := by decide +kernel
theorem d_Go_takeAway_33 : decode prog_3_method_19_code 33 = .ok (.lload_n 3, 1) := by decide +kernel
theorem d_Go_takeAway_34 : decode prog_3_method_19_code 34 = .ok (.lload_n 3, 1) := by decide +kernel
theorem d_Go_takeAway_35 : decode prog_3_method_19_code 35 = .ok (.lconst 1, 1) := by decide +kernel
theorem d_Go_takeAway_36 : decode prog_3_method_19_code 36 = .ok (.lsub, 1) := by decide +kernel
theorem d_Go_takeAway_37 : decode prog_3_method_19_code 37 = .ok (.land, 1) := by decide +kernel
theorem d_Go_takeAway_38 : decode prog_3_method_19_code 38 = .ok (.lstore_n 3, 1) := by decide +kernel
theorem d_Go_takeAway_39 : decode prog_3_method_19_code 39 = .ok (.iinc 5 (-1), 3) := by decide +kernel
theorem d_Go_takeAway_42 : decode prog_3_method_19_code 42 = .ok (.goto (-29), 3) := by decide +kernel
theorem d_Go_takeAway_45 : decode prog_3_method_19_code 45 = .ok (.aload_n 0, 1) := by decide +kernel
theorem d_Go_takeAway_46 : decode prog_3_method_19_code 46 = .ok (.getfield 24, 3) := by decide +kernel
theorem d_Go_takeAway_49 : decode prog_3_method_19_code 49 = .ok (.iload_n 1, 1) := by decide +kernel
theorem d_Go_takeAway_50 : decode prog_3_method_19_code 50 = .ok (.dup2, 1) := by decide +kernel
theorem d_Go_takeAway_51 : decode prog_3_method_19_code 51 = .ok (.laload, 1) := by decide +kernel
theorem d_Go_takeAway_52 : decode prog_3_method_19_code 52 = .ok (.aload_n 0, 1) := by decide +kernel
theorem d_Go_takeAway_53 : decode prog_3_method_19_code 53 = .ok (.getfield 28, 3) := by decide +kernel
theorem d_Go_takeAway_56 : decode prog_3_method_19_code 56 = .ok (.iload_n 1, 1) := by decide +kernel
theorem d_Go_takeAway_57 : decode prog_3_method_19_code 57 = .ok (.laload, 1) := by decide +kernel
theorem d_Go_takeAway_58 : decode prog_3_method_19_code 58 = .ok (.ldc2_w 92, 3) := by decide +kernel
theorem d_Go_takeAway_61 : decode prog_3_method_19_code 61 = .ok (.lxor, 1) := by decide +kernel
theorem d_Go_takeAway_62 : decode prog_3_method_19_code 62 = .ok (.land, 1) := by decide +kernel
theorem d_Go_takeAway_63 : decode prog_3_method_19_code 63 = .ok (.lastore, 1) := by decide +kernel
theorem d_Go_takeAway_64 : decode prog_3_method_19_code 64 = .ok (.aload_n 0, 1) := by decide +kernel
theorem d_Go_takeAway_65 : decode prog_3_method_19_code 65 = .ok (.getfield 28, 3) := by decide +kernel
theorem d_Go_takeAway_68 : decode prog_3_method_19_code 68 = .ok (.iload_n 1, 1) := by decide +kernel
theorem d_Go_takeAway_69 : decode prog_3_method_19_code 69 = .ok (.lconst 0, 1) := by decide +kernel
theorem d_Go_takeAway_70 : decode prog_3_method_19_code 70 = .ok (.lastore, 1) := by decide +kernel
theorem d_Go_takeAway_71 : decode prog_3_method_19_code 71 = .ok (.return_, 1) := by decide +kernel
theorem d_Go_makeRound_0 : decode prog_3_method_18_code 0 = .ok (.iconst 0, 1) := by decide +kernel
theorem d_Go_makeRound_1 : decode prog_3_method_18_code 1 = .ok (.istore_n 2, 1) := by decide +kernel
theorem d_Go_makeRound_2 : decode prog_3_method_18_code 2 = .ok (.iload_n 2, 1) := by decide +kernel
theorem d_Go_makeRound_3 : decode prog_3_method_18_code 3 = .ok (.iconst 4, 1) := by decide +kernel
theorem d_Go_makeRound_4 : decode prog_3_method_18_code 4 = .ok (.if_icmp .ge 23, 3) := by decide +kernel
theorem d_Go_makeRound_7 : decode prog_3_method_18_code 7 = .ok (.aload_n 0, 1) := by decide +kernel
theorem d_Go_makeRound_8 : decode prog_3_method_18_code 8 = .ok (.getfield 18, 3) := by decide +kernel
theorem d_Go_makeRound_11 : decode prog_3_method_18_code 11 = .ok (.iload_n 2, 1) := by decide +kernel
theorem d_Go_makeRound_12 : decode prog_3_method_18_code 12 = .ok (.iaload, 1) := by decide +kernel
theorem d_Go_makeRound_13 : decode prog_3_method_18_code 13 = .ok (.ifCond .eq 8, 3) := by decide +kernel
theorem d_Go_makeRound_16 : decode prog_3_method_18_code 16 = .ok (.aload_n 0, 1) := by decide +kernel
theorem d_Go_makeRound_17 : decode prog_3_method_18_code 17 = .ok (.iload_n 2, 1) := by decide +kernel
theorem d_Go_makeRound_18 : decode prog_3_method_18_code 18 = .ok (.invokevirtual 127, 3) := by decide +kernel
theorem d_Go_makeRound_21 : decode prog_3_method_18_code 21 = .ok (.iinc 2 1, 3) := by decide +kernel
theorem d_Go_makeRound_24 : decode prog_3_method_18_code 24 = .ok (.goto (-22), 3) := by decide +kernel
theorem d_Go_makeRound_27 : decode prog_3_method_18_code 27 = .ok (.iconst 0, 1) := by decide +kernel
theorem d_Go_makeRound_28 : decode prog_3_method_18_code 28 = .ok (.istore_n 2, 1) := by decide +kernel
theorem d_Go_makeRound_29 : decode prog_3_method_18_code 29 = .ok (.iconst 0, 1) := by decide +kernel
theorem d_Go_makeRound_30 : decode prog_3_method_18_code 30 = .ok (.istore_n 3, 1) := by decide +kernel
theorem d_Go_makeRound_31 : decode prog_3_method_18_code 31 = .ok (.iload_n 3, 1) := by decide +kernel
theorem d_Go_makeRound_32 : decode prog_3_method_18_code 32 = .ok (.bipush 16, 2) := by decide +kernel
theorem d_Go_makeRound_34 : decode prog_3_method_18_code 34 = .ok (.if_icmp .ge 36, 3) := by decide +kernel
theorem d_Go_makeRound_37 : decode prog_3_method_18_code 37 = .ok (.iload_n 2, 1) := by decide +kernel
theorem d_Go_makeRound_38 : decode prog_3_method_18_code 38 = .ok (.ifCond .ne 14, 3) := by decide +kernel
theorem d_Go_makeRound_41 : decode prog_3_method_18_code 41 = .ok (.aload_n 0, 1) := by decide +kernel
theorem d_Go_makeRound_42 : decode prog_3_method_18_code 42 = .ok (.getfield 28, 3) := by decide +kernel
theorem d_Go_makeRound_45 : decode prog_3_method_18_code 45 = .ok (.iload_n 3, 1) := by decide +kernel
theorem d_Go_makeRound_46 : decode prog_3_method_18_code 46 = .ok (.laload, 1) := by decide +kernel
theorem d_Go_makeRound_47 : decode prog_3_method_18_code 47 = .ok (.lconst 0, 1) := by decide +kernel
theorem d_Go_makeRound_48 : decode prog_3_method_18_code 48 = .ok (.lcmp, 1) := by decide +kernel
theorem d_Go_makeRound_49 : decode prog_3_method_18_code 49 = .ok (.ifCond .eq 7, 3) := by decide +kernel
theorem d_Go_makeRound_52 : decode prog_3_method_18_code 52 = .ok (.iconst 1, 1) := by decide +kernel
theorem d_Go_makeRound_53 : decode prog_3_method_18_code 53 = .ok (.goto 4, 3) := by decide +kernel
theorem d_Go_makeRound_56 : decode prog_3_method_18_code 56 = .ok (.iconst 0, 1) := by decide +kernel
theorem d_Go_makeRound_57 : decode prog_3_method_18_code 57 = .ok (.istore_n 2, 1) := by decide +kernel
theorem d_Go_makeRound_58 : decode prog_3_method_18_code 58 = .ok (.aload_n 0, 1) := by decide +kernel
theorem d_Go_makeRound_59 : decode prog_3_method_18_code 59 = .ok (.iload_n 3, 1) := by decide +kernel
theorem d_Go_makeRound_60 : decode prog_3_method_18_code 60 = .ok (.iload_n 1, 1) := by decide +kernel
theorem d_Go_makeRound_61 : decode prog_3_method_18_code 61 = .ok (.invokevirtual 131, 3) := by decide +kernel
theorem d_Go_makeRound_64 : decode prog_3_method_18_code 64 = .ok (.iinc 3 1, 3) := by decide +kernel
theorem d_Go_makeRound_67 : decode prog_3_method_18_code 67 = .ok (.goto (-36), 3) := by decide +kernel
theorem d_Go_makeRound_70 : decode prog_3_method_18_code 70 = .ok (.iload_n 2, 1) := by decide +kernel
theorem d_Go_makeRound_71 : decode prog_3_method_18_code 71 = .ok (.ireturn, 1) := by decide +kernel
theorem d_Go_refresh_0 : decode prog_3_method_5_code 0 = .ok (.aload_n 0, 1) := by decide +kernel
theorem d_Go_refresh_1 : decode prog_3_method_5_code 1 = .ok (.getfield 37, 3) := by decide +kernel
theorem d_Go_refresh_4 : decode prog_3_method_5_code 4 = .ok (.ifCond .ne 18, 3) := by decide +kernel
theorem d_Go_refresh_7 : decode prog_3_method_5_code 7 = .ok (.aload_n 0, 1) := by decide +kernel
theorem d_Go_refresh_8 : decode prog_3_method_5_code 8 = .ok (.getfield 53, 3) := by decide +kernel
theorem d_Go_refresh_11 : decode prog_3_method_5_code 11 = .ok (.aload_n 0, 1) := by decide +kernel
theorem d_Go_refresh_12 : decode prog_3_method_5_code 12 = .ok (.getfield 41, 3) := by decide +kernel
theorem d_Go_refresh_15 : decode prog_3_method_5_code 15 = .ok (.invokevirtual 56, 3) := by decide +kernel
theorem d_Go_refresh_18 : decode prog_3_method_5_code 18 = .ok (.if_icmp .ne 4, 3) := by decide +kernel
theorem d_Go_refresh_21 : decode prog_3_method_5_code 21 = .ok (.return_, 1) := by decide +kernel
theorem d_Go_refresh_22 : decode prog_3_method_5_code 22 = .ok (.aload_n 0, 1) := by decide +kernel
theorem d_Go_refresh_23 : decode prog_3_method_5_code 23 = .ok (.invokevirtual 62, 3) := by decide +kernel
theorem d_Go_refresh_26 : decode prog_3_method_5_code 26 = .ok (.aload_n 0, 1) := by decide +kernel
theorem d_Go_refresh_27 : decode prog_3_method_5_code 27 = .ok (.invokevirtual 65, 3) := by decide +kernel
theorem d_Go_refresh_30 : decode prog_3_method_5_code 30 = .ok (.aload_n 0, 1) := by decide +kernel
theorem d_Go_refresh_31 : decode prog_3_method_5_code 31 = .ok (.iconst 0, 1) := by decide +kernel
theorem d_Go_refresh_32 : decode prog_3_method_5_code 32 = .ok (.putfield 68, 3) := by decide +kernel
theorem d_Go_refresh_35 : decode prog_3_method_5_code 35 = .ok (.iconst 1, 1) := by decide +kernel
theorem d_Go_refresh_36 : decode prog_3_method_5_code 36 = .ok (.istore_n 1, 1) := by decide +kernel
theorem d_Go_refresh_37 : decode prog_3_method_5_code 37 = .ok (.iload_n 1, 1) := by decide +kernel
theorem d_Go_refresh_38 : decode prog_3_method_5_code 38 = .ok (.sipush 1024, 3) := by decide +kernel
theorem d_Go_refresh_41 : decode prog_3_method_5_code 41 = .ok (.if_icmp .gt 22, 3) := by decide +kernel
theorem d_Go_refresh_44 : decode prog_3_method_5_code 44 = .ok (.aload_n 0, 1) := by decide +kernel
theorem d_Go_refresh_45 : decode prog_3_method_5_code 45 = .ok (.iload_n 1, 1) := by decide +kernel
theorem d_Go_refresh_46 : decode prog_3_method_5_code 46 = .ok (.invokevirtual 71, 3) := by decide +kernel
theorem d_Go_refresh_49 : decode prog_3_method_5_code 49 = .ok (.ifCond .eq 14, 3) := by decide +kernel
theorem d_Go_refresh_52 : decode prog_3_method_5_code 52 = .ok (.aload_n 0, 1) := by decide +kernel
theorem d_Go_refresh_53 : decode prog_3_method_5_code 53 = .ok (.iload_n 1, 1) := by decide +kernel
theorem d_Go_refresh_54 : decode prog_3_method_5_code 54 = .ok (.putfield 68, 3) := by decide +kernel
theorem d_Go_refresh_57 : decode prog_3_method_5_code 57 = .ok (.iinc 1 1, 3) := by decide +kernel
theorem d_Go_refresh_60 : decode prog_3_method_5_code 60 = .ok (.goto (-23), 3) := by decide +kernel
theorem d_Go_refresh_63 : decode prog_3_method_5_code 63 = .ok (.aload_n 0, 1) := by decide +kernel
theorem d_Go_refresh_64 : decode prog_3_method_5_code 64 = .ok (.iconst 0, 1) := by decide +kernel
theorem d_Go_refresh_65 : decode prog_3_method_5_code 65 = .ok (.putfield 37, 3) := by decide +kernel
theorem d_Go_refresh_68 : decode prog_3_method_5_code 68 = .ok (.aload_n 0, 1) := by decide +kernel
theorem d_Go_refresh_69 : decode prog_3_method_5_code 69 = .ok (.aload_n 0, 1) := by decide +kernel
theorem d_Go_refresh_70 : decode prog_3_method_5_code 70 = .ok (.getfield 41, 3) := by decide +kernel
theorem d_Go_refresh_73 : decode prog_3_method_5_code 73 = .ok (.invokevirtual 56, 3) := by decide +kernel
theorem d_Go_refresh_76 : decode prog_3_method_5_code 76 = .ok (.putfield 53, 3) := by decide +kernel
theorem d_Go_refresh_79 : decode prog_3_method_5_code 79 = .ok (.aload_n 0, 1) := by decide +kernel
theorem d_Go_refresh_80 : decode prog_3_method_5_code 80 = .ok (.dup, 1) := by decide +kernel
theorem d_Go_refresh_81 : decode prog_3_method_5_code 81 = .ok (.getfield 75, 3) := by decide +kernel
theorem d_Go_refresh_84 : decode prog_3_method_5_code 84 = .ok (.iconst 1, 1) := by decide +kernel
theorem d_Go_refresh_85 : decode prog_3_method_5_code 85 = .ok (.iadd, 1) := by decide +kernel
theorem d_Go_refresh_86 : decode prog_3_method_5_code 86 = .ok (.putfield 75, 3) := by decide +kernel
theorem d_Go_refresh_89 : decode prog_3_method_5_code 89 = .ok (.return_, 1) := by decide +kernel
theorem d_Go_someAre_0 : decode prog_3_method_10_code 0 = .ok (.iconst 0, 1) := by decide +kernel
theorem d_Go_someAre_1 : decode prog_3_method_10_code 1 = .ok (.istore_n 2, 1) := by decide +kernel
theorem d_Go_someAre_2 : decode prog_3_method_10_code 2 = .ok (.iload_n 2, 1) := by decide +kernel
theorem d_Go_someAre_3 : decode prog_3_method_10_code 3 = .ok (.bipush 16, 2) := by decide +kernel
theorem d_Go_someAre_5 : decode prog_3_method_10_code 5 = .ok (.if_icmp .ge 32, 3) := by decide +kernel
theorem d_Go_someAre_8 : decode prog_3_method_10_code 8 = .ok (.aload_n 0, 1) := by decide +kernel
theorem d_Go_someAre_9 : decode prog_3_method_10_code 9 = .ok (.getfield 24, 3) := by decide +kernel
theorem d_Go_someAre_12 : decode prog_3_method_10_code 12 = .ok (.iload_n 2, 1) := by decide +kernel
theorem d_Go_someAre_13 : decode prog_3_method_10_code 13 = .ok (.laload, 1) := by decide +kernel
theorem d_Go_someAre_14 : decode prog_3_method_10_code 14 = .ok (.aload_n 0, 1) := by decide +kernel
theorem d_Go_someAre_15 : decode prog_3_method_10_code 15 = .ok (.getfield 41, 3) := by decide +kernel
theorem d_Go_someAre_18 : decode prog_3_method_10_code 18 = .ok (.iload_n 1, 1) := by decide +kernel
theorem d_Go_someAre_19 : decode prog_3_method_10_code 19 = .ok (.iload_n 2, 1) := by decide +kernel
theorem d_Go_someAre_20 : decode prog_3_method_10_code 20 = .ok (.invokevirtual 88, 3) := by decide +kernel
theorem d_Go_someAre_23 : decode prog_3_method_10_code 23 = .ok (.land, 1) := by decide +kernel
theorem d_Go_someAre_24 : decode prog_3_method_10_code 24 = .ok (.lconst 0, 1) := by decide +kernel
theorem d_Go_someAre_25 : decode prog_3_method_10_code 25 = .ok (.lcmp, 1) := by decide +kernel
theorem d_Go_someAre_26 : decode prog_3_method_10_code 26 = .ok (.ifCond .eq 5, 3) := by decide +kernel
theorem d_Go_someAre_29 : decode prog_3_method_10_code 29 = .ok (.iconst 1, 1) := by decide +kernel
theorem d_Go_someAre_30 : decode prog_3_method_10_code 30 = .ok (.ireturn, 1) := by decide +kernel
theorem d_Go_someAre_31 : decode prog_3_method_10_code 31 = .ok (.iinc 2 1, 3) := by decide +kernel
theorem d_Go_someAre_34 : decode prog_3_method_10_code 34 = .ok (.goto (-32), 3) := by decide +kernel
theorem d_Go_someAre_37 : decode prog_3_method_10_code 37 = .ok (.iconst 0, 1) := by decide +kernel
theorem d_Go_someAre_38 : decode prog_3_method_10_code 38 = .ok (.ireturn, 1) := by decide +kernel
theorem d_Go_eachIs_0 : decode prog_3_method_11_code 0 = .ok (.iconst 0, 1) := by decide +kernel
theorem d_Go_eachIs_1 : decode prog_3_method_11_code 1 = .ok (.istore_n 3, 1) := by decide +kernel
theorem d_Go_eachIs_2 : decode prog_3_method_11_code 2 = .ok (.iload_n 3, 1) := by decide +kernel
theorem d_Go_eachIs_3 : decode prog_3_method_11_code 3 = .ok (.bipush 16, 2) := by decide +kernel
theorem d_Go_eachIs_5 : decode prog_3_method_11_code 5 = .ok (.if_icmp .ge 46, 3) := by decide +kernel
theorem d_Go_eachIs_8 : decode prog_3_method_11_code 8 = .ok (.aload_n 0, 1) := by decide +kernel
theorem d_Go_eachIs_9 : decode prog_3_method_11_code 9 = .ok (.getfield 24, 3) := by decide +kernel
theorem d_Go_eachIs_12 : decode prog_3_method_11_code 12 = .ok (.iload_n 3, 1) := by decide +kernel
theorem d_Go_eachIs_13 : decode prog_3_method_11_code 13 = .ok (.laload, 1) := by decide +kernel
theorem d_Go_eachIs_14 : decode prog_3_method_11_code 14 = .ok (.aload_n 0, 1) := by decide +kernel
theorem d_Go_eachIs_15 : decode prog_3_method_11_code 15 = .ok (.getfield 41, 3) := by decide +kernel
theorem d_Go_eachIs_18 : decode prog_3_method_11_code 18 = .ok (.iload_n 1, 1) := by decide +kernel
theorem d_Go_eachIs_19 : decode prog_3_method_11_code 19 = .ok (.iload_n 3, 1) := by decide +kernel
theorem d_Go_eachIs_20 : decode prog_3_method_11_code 20 = .ok (.invokevirtual 88, 3) := by decide +kernel
theorem d_Go_eachIs_23 : decode prog_3_method_11_code 23 = .ok (.land, 1) := by decide +kernel
theorem d_Go_eachIs_24 : decode prog_3_method_11_code 24 = .ok (.aload_n 0, 1) := by decide +kernel
theorem d_Go_eachIs_25 : decode prog_3_method_11_code 25 = .ok (.getfield 41, 3) := by decide +kernel
theorem d_Go_eachIs_28 : decode prog_3_method_11_code 28 = .ok (.iload_n 2, 1) := by decide +kernel
theorem d_Go_eachIs_29 : decode prog_3_method_11_code 29 = .ok (.iload_n 3, 1) := by decide +kernel
theorem d_Go_eachIs_30 : decode prog_3_method_11_code 30 = .ok (.invokevirtual 88, 3) := by decide +kernel
theorem d_Go_eachIs_33 : decode prog_3_method_11_code 33 = .ok (.ldc2_w 92, 3) := by decide +kernel
theorem d_Go_eachIs_36 : decode prog_3_method_11_code 36 = .ok (.lxor, 1) := by decide +kernel
theorem d_Go_eachIs_37 : decode prog_3_method_11_code 37 = .ok (.land, 1) := by decide +kernel
theorem d_Go_eachIs_38 : decode prog_3_method_11_code 38 = .ok (.lconst 0, 1) := by decide +kernel
theorem d_Go_eachIs_39 : decode prog_3_method_11_code 39 = .ok (.lcmp, 1) := by decide +kernel
theorem d_Go_eachIs_40 : decode prog_3_method_11_code 40 = .ok (.ifCond .eq 5, 3) := by decide +kernel
theorem d_Go_eachIs_43 : decode prog_3_method_11_code 43 = .ok (.iconst 0, 1) := by decide +kernel
theorem d_Go_eachIs_44 : decode prog_3_method_11_code 44 = .ok (.ireturn, 1) := by decide +kernel
theorem d_Go_eachIs_45 : decode prog_3_method_11_code 45 = .ok (.iinc 3 1, 3) := by decide +kernel
theorem d_Go_eachIs_48 : decode prog_3_method_11_code 48 = .ok (.goto (-46), 3) := by decide +kernel
theorem d_Go_eachIs_51 : decode prog_3_method_11_code 51 = .ok (.iconst 1, 1) := by decide +kernel
theorem d_Go_eachIs_52 : decode prog_3_method_11_code 52 = .ok (.ireturn, 1) := by decide +kernel
theorem d_Go_size_0 : decode prog_3_method_7_code 0 = .ok (.iconst 0, 1) := by decide +kernel
theorem d_Go_size_1 : decode prog_3_method_7_code 1 = .ok (.istore_n 1, 1) := by decide +kernel
theorem d_Go_size_2 : decode prog_3_method_7_code 2 = .ok (.iconst 0, 1) := by decide +kernel
theorem d_Go_size_3 : decode prog_3_method_7_code 3 = .ok (.istore_n 2, 1) := by decide +kernel
theorem d_Go_size_4 : decode prog_3_method_7_code 4 = .ok (.iload_n 2, 1) := by decide +kernel
theorem d_Go_size_5 : decode prog_3_method_7_code 5 = .ok (.bipush 16, 2) := by decide +kernel
theorem d_Go_size_7 : decode prog_3_method_7_code 7 = .ok (.if_icmp .ge 21, 3) := by decide +kernel
theorem d_Go_size_10 : decode prog_3_method_7_code 10 = .ok (.iload_n 1, 1) := by decide +kernel
theorem d_Go_size_11 : decode prog_3_method_7_code 11 = .ok (.aload_n 0, 1) := by decide +kernel
theorem d_Go_size_12 : decode prog_3_method_7_code 12 = .ok (.getfield 24, 3) := by decide +kernel
theorem d_Go_size_15 : decode prog_3_method_7_code 15 = .ok (.iload_n 2, 1) := by decide +kernel
theorem d_Go_size_16 : decode prog_3_method_7_code 16 = .ok (.laload, 1) := by decide +kernel
theorem d_Go_size_17 : decode prog_3_method_7_code 17 = .ok (.invokestatic 78, 3) := by decide +kernel
theorem d_Go_size_20 : decode prog_3_method_7_code 20 = .ok (.iadd, 1) := by decide +kernel
theorem d_Go_size_21 : decode prog_3_method_7_code 21 = .ok (.istore_n 1, 1) := by decide +kernel
theorem d_Go_size_22 : decode prog_3_method_7_code 22 = .ok (.iinc 2 1, 3) := by decide +kernel
theorem d_Go_size_25 : decode prog_3_method_7_code 25 = .ok (.goto (-21), 3) := by decide +kernel
theorem d_Go_size_28 : decode prog_3_method_7_code 28 = .ok (.iload_n 1, 1) := by decide +kernel
theorem d_Go_size_29 : decode prog_3_method_7_code 29 = .ok (.ireturn, 1) := by decide +kernel
theorem d_Go_roundCount_0 : decode prog_3_method_8_code 0 = .ok (.aload_n 0, 1) := by decide +kernel
theorem d_Go_roundCount_1 : decode prog_3_method_8_code 1 = .ok (.getfield 68, 3) := by decide +kernel
theorem d_Go_roundCount_4 : decode prog_3_method_8_code 4 = .ok (.ireturn, 1) := by decide +kernel
noncomputable def bk_Go_begin_0 : List Int32 → List Int64 → tq_S → Option tq_C
  | [], [], σ => tq_ob (tq_fI st_Co_wordCount (0, [], [], σ)) (fun r2 σ3 => some (10, [r2, 0], [], σ3))
  | _, _, _ => none
noncomputable def bk_Go_begin_10 : List Int32 → List Int64 → tq_S → Option tq_C
  | [x1, x2], [], σ => if 16 ≤ x2 then tq_ob (tq_fI st_Co_typeCount (0, [], [], σ)) (fun r6 σ7 => some (59, [r6, 0], [], σ7)) else if x1 ≤ x2 then tq_gd x2 16 (tq_lj (lput σ 2 x2.toNatClampNeg 0) (fun σ10 => tq_lj (x2 + 1) (fun v11 => some (10, [x1, v11], [], σ10)))) else tq_ob (tq_fL st_Co_typesInWord (0, [], [], σ)) (fun r13 σ14 => tq_ob (tq_fL st_Go_keptByAxioms (0, [x2], [r13], σ14)) (fun r16 σ17 => tq_gd x2 16 (tq_lj (lput σ17 2 x2.toNatClampNeg r16) (fun σ19 => tq_lj (x2 + 1) (fun v20 => some (10, [x1, v20], [], σ19))))))
  | _, _, _ => none
noncomputable def bk_Go_begin_59 : List Int32 → List Int64 → tq_S → Option tq_C
  | [x2, x3], [], σ => if x2 ≤ x3 then some (tq_rt, [], [], σ) else if 1024 ≤ x3 then some (tq_rt, [], [], σ) else tq_ob (tq_fI st_Go_isThere (0, [x3], [], σ)) (fun r24 σ25 => if r24 = 0 then tq_gd x3 1024 (tq_lj (iput σ25 11 x3.toNatClampNeg (-2)) (fun σ28 => tq_lj (x3 + 1) (fun v29 => some (59, [x2, v29], [], σ28)))) else tq_gd x3 1024 (tq_lj (iput σ25 11 x3.toNatClampNeg 0) (fun σ31 => tq_lj (x3 + 1) (fun v32 => some (59, [x2, v32], [], σ31)))))
  | _, _, _ => none
noncomputable def st_Go_begin (c : tq_C) : Option tq_C := if c.1 = 0 then bk_Go_begin_0 c.2.1 c.2.2.1 c.2.2.2 else if c.1 = 10 then bk_Go_begin_10 c.2.1 c.2.2.1 c.2.2.2 else if c.1 = 59 then bk_Go_begin_59 c.2.1 c.2.2.1 c.2.2.2 else none
set_option maxHeartbeats 40000000 in
set_option maxRecDepth 100000 in
theorem c_Go_begin (l : Launch) (dC : Nat → ClassId) (dI : Nat → Nat → Nat) (cI cL cZ : ClassId) (ad : Nat → Nat) (tt : Nat) (sz : Nat) (σ : tq_S) (σ' : tq_S) (hf : tq_fV st_Go_begin (0, [], [], σ) = some ((), σ')) : Met l y_Go_begin w_Go_begin ({ frames := 2, cells := 0, slots := 0, locals := 49 } : Room) (va_Pc [.ref (ad 3)] (tq_B dC dI cI cL cZ tt (wo cI cL cZ ad σ) sz)) (va_Qv (fun (u : tq_S) => u = σ') (tq_E dC dI cI cL cZ (wo cI cL cZ ad) (va_A (wo cI cL cZ ad σ) sz)) (va_A (wo cI cL cZ ad σ) sz)) 0 0 (va_A (wo cI cL cZ ad σ) sz) := by
  obtain ⟨n0, h0⟩ := tq_fV_to hf
  refine Met.ofW (cc := prog_3_method_15_code) (maxL := 4) (ret := none) (by decide) rfl ?_
  intro p e s m args below meth c s₁ B hml hv
  obtain ⟨rfl, hsz, hP, hK, hD0, hZ, hN⟩ := hv
  have hx := B.exec
  have hb := B.bytes
  have hr := B.returns
  have hts : ∀ w ∈ tq_T, w.before _ s = true := fun w h => atoms_spec (ws := w_Go_begin) B.pre w (List.mem_cons_of_mem _ h)
  have hown : s.vm.findClass "TableauNodes$GoodTypes" = some m.cls := findClass_of_methodNamed B.named
  have hlocks := B.notSynchronized
  subst hsz
  have hD := hD0.self (sz := s.heap.size)
  have hS : va_S (va_A (wo cI cL cZ ad σ) s.heap.size) s.heap s.heap [] := va_S.rf
  have hA : ∀ q : Nat, s.heap.size ≤ q → va_A (wo cI cL cZ ad σ) s.heap.size q := fun q h => Or.inr h
  generalize va_A (wo cI cL cZ ad σ) s.heap.size = A at hD hS hA hZ ⊢
  have hl := lv_entry ([.ref (ad 3)]) (n := 4) (Nat.le_of_ble_eq_true rfl)
  rw [lg_entry_eq]
  generalize (lg_sl ([.ref (ad 3)]) ++ List.replicate (4 - (lg_sl ([.ref (ad 3)])).length) Slot.unset).toArray = ls at hl ⊢
  have hl : lv_has ls 4 [(0, .ref (ad 3))] := hl
  have key : ∀ n : Nat, (∀ {σ : tq_S} {H : Heap} {locs : List Loc} {ls : Array Slot}, va_P (dC, dI) tq_cl (wo cI cL cZ ad σ) H → va_D A (wo cI cL cZ ad σ) → va_S A s.heap H locs → lv_has ls 4 [(0, .ref (ad 3))] → tq_go st_Go_begin n (0, [], [], σ) = some (tq_rt, [], [], σ') → W p l e (headSpec w_Go_begin ({ frames := 2, cells := 0, slots := 0, locals := 49 } : Room)).room s m ([.ref (ad 3)] : List Value).toArray below meth c H locs 0 0 (MQ below (va_Qv (fun (u : tq_S) => u = σ') (tq_E dC dI cI cL cZ (wo cI cL cZ ad) A) A) ([.ref (ad 3)] : List Value).toArray s 0 0 A) (F0 m 0 ls [])) ∧ (∀ {x1 x2 : Int32} {σ : tq_S} {H : Heap} {locs : List Loc} {ls : Array Slot}, va_P (dC, dI) tq_cl (wo cI cL cZ ad σ) H → va_D A (wo cI cL cZ ad σ) → va_S A s.heap H locs → lv_has ls 4 [(0, .ref (ad 3)), (1, .int x1), (2, .int x2)] → tq_go st_Go_begin n (10, [x1, x2], [], σ) = some (tq_rt, [], [], σ') → W p l e (headSpec w_Go_begin ({ frames := 2, cells := 0, slots := 0, locals := 49 } : Room)).room s m ([.ref (ad 3)] : List Value).toArray below meth c H locs 0 0 (MQ below (va_Qv (fun (u : tq_S) => u = σ') (tq_E dC dI cI cL cZ (wo cI cL cZ ad) A) A) ([.ref (ad 3)] : List Value).toArray s 0 0 A) (F0 m 10 ls [])) ∧ (∀ {x2 x3 : Int32} {σ : tq_S} {H : Heap} {locs : List Loc} {ls : Array Slot}, va_P (dC, dI) tq_cl (wo cI cL cZ ad σ) H → va_D A (wo cI cL cZ ad σ) → va_S A s.heap H locs → lv_has ls 4 [(0, .ref (ad 3)), (2, .int x2), (3, .int x3)] → tq_go st_Go_begin n (59, [x2, x3], [], σ) = some (tq_rt, [], [], σ') → W p l e (headSpec w_Go_begin ({ frames := 2, cells := 0, slots := 0, locals := 49 } : Room)).room s m ([.ref (ad 3)] : List Value).toArray below meth c H locs 0 0 (MQ below (va_Qv (fun (u : tq_S) => u = σ') (tq_E dC dI cI cL cZ (wo cI cL cZ ad) A) A) ([.ref (ad 3)] : List Value).toArray s 0 0 A) (F0 m 59 ls [])) := by
    intro n
    induction n with
    | zero => exact ⟨(fun _ _ _ _ h => by cases h), (fun _ _ _ _ h => by cases h), (fun _ _ _ _ h => by cases h)⟩
    | succ n ih =>
      refine ⟨?_, ?_, ?_⟩
      · intro  σ H locs ls hP hD hS hl h9
        obtain ⟨q9, hg, hn⟩ := tq_go_s h9 (show ¬ (0 : Nat) = tq_rt by decide)
        replace hg : bk_Go_begin_0 [] [] σ = some q9 := hg
        unfold bk_Go_begin_0 at hg
        refine lv_aload_n hx hb d_Go_begin_0 rfl (lv_at hl 0 rfl) ?_
        refine va_get (D := (dC, dI)) (ci := 3) (v := .ref (ad 1)) (C := "TableauNodes$GoodTypes") (T := F_Go) (N := 15) hx hb hts in_Go hown hK hP 3 rfl rfl 0 (by decide) (hts _ tw_117) (fun _ h9 => h9) rfl d_Go_begin_1 ?_
        obtain ⟨r2, σ3, f1, hg⟩ := tq_ob_s hg
        refine tq_aI (va_runV (As := []) (rest := []) ⟨hx, hb, hml, hown, hts⟩ (c_Co_wordCount l dC dI cI cL cZ ad tt H.size σ   r2 σ3 f1) (cwV 0 hts (tq_gV tw_338 tw_339 tw_340 tw_2 tw_341) rfl rfl rfl (by decide +kernel) ⟨Nat.le_of_ble_eq_true rfl, Nat.le_of_ble_eq_true rfl⟩) ⟨tq_bl, va_recv hK hP (ci := 1) (q0 := 1) rfl rfl, (tq_pr hP hK hD hS hA hZ hN)⟩ rfl rfl hl.1 rfl (lv_room (Nat.le_of_ble_eq_true rfl)) d_Go_begin_4 ⟨Nat.zero_le _, Nat.zero_le _⟩) hD hS hA (fun H locs hP hD hS => ?_)
        refine lv_istore_n (lv' := [(1, .int r2), (0, .ref (ad 3))]) hx hb d_Go_begin_7 rfl hl (by decide) rfl (fun ls hl => ?_)
        refine lv_iconst (v := 0) hx hb d_Go_begin_8 (by decide) ?_
        refine lv_istore_n (lv' := [(2, .int 0), (1, .int r2), (0, .ref (ad 3))]) hx hb d_Go_begin_9 rfl hl (by decide) rfl (fun ls hl => ?_)
        exact ih.2.1 hP hD hS (lv_sub hl [2, 1, 0] rfl) (tq_gi hg hn)
      · intro x1 x2 σ H locs ls hP hD hS hl h9
        obtain ⟨q9, hg, hn⟩ := tq_go_s h9 (show ¬ (10 : Nat) = tq_rt by decide)
        replace hg : bk_Go_begin_10 [x1, x2] [] σ = some q9 := hg
        unfold bk_Go_begin_10 at hg
        refine lv_iload_n hx hb d_Go_begin_10 rfl (lv_at hl 2 rfl) ?_
        refine lv_bipush (v := 16) hx hb d_Go_begin_11 (by decide) ?_
        refine lv_icmp_ge (tgt := 49) hx hb d_Go_begin_13 (by decide) (fun c4 => ?_) (fun c4 => ?_)
        · replace hg := tq_if_t c4 hg
          refine lv_aload_n hx hb d_Go_begin_49 rfl (lv_at hl 0 rfl) ?_
          refine va_get (D := (dC, dI)) (ci := 3) (v := .ref (ad 1)) (C := "TableauNodes$GoodTypes") (T := F_Go) (N := 15) hx hb hts in_Go hown hK hP 3 rfl rfl 0 (by decide) (hts _ tw_117) (fun _ h9 => h9) rfl d_Go_begin_50 ?_
          obtain ⟨r6, σ7, f5, hg⟩ := tq_ob_s hg
          refine tq_aI (va_runV (As := []) (rest := []) ⟨hx, hb, hml, hown, hts⟩ (c_Co_typeCount l dC dI cI cL cZ ad tt H.size σ   r6 σ7 f5) (cwV 0 hts (tq_gV tw_356 tw_343 tw_344 tw_2 tw_345) rfl rfl rfl (by decide +kernel) ⟨Nat.le_of_ble_eq_true rfl, Nat.le_of_ble_eq_true rfl⟩) ⟨tq_bl, va_recv hK hP (ci := 1) (q0 := 1) rfl rfl, (tq_pr hP hK hD hS hA hZ hN)⟩ rfl rfl hl.1 rfl (lv_room (Nat.le_of_ble_eq_true rfl)) d_Go_begin_53 ⟨Nat.zero_le _, Nat.zero_le _⟩) hD hS hA (fun H locs hP hD hS => ?_)
          refine lv_istore_n (lv' := [(2, .int r6), (0, .ref (ad 3)), (1, .int x1)]) hx hb d_Go_begin_56 rfl hl (by decide) rfl (fun ls hl => ?_)
          refine lv_iconst (v := 0) hx hb d_Go_begin_57 (by decide) ?_
          refine lv_istore_n (lv' := [(3, .int 0), (2, .int r6), (0, .ref (ad 3)), (1, .int x1)]) hx hb d_Go_begin_58 rfl hl (by decide) rfl (fun ls hl => ?_)
          exact ih.2.2 hP hD hS (lv_sub hl [2, 1, 0] rfl) (tq_gi hg hn)
        · replace hg := tq_if_f c4 hg
          refine lv_aload_n hx hb d_Go_begin_16 rfl (lv_at hl 0 rfl) ?_
          refine va_get (D := (dC, dI)) (ci := 3) (v := .ref (ad 19)) (C := "TableauNodes$GoodTypes") (T := F_Go) (N := 15) hx hb hts in_Go hown hK hP 3 rfl rfl 7 (by decide) (hts _ tw_124) (fun _ h9 => h9) rfl d_Go_begin_17 ?_
          refine lv_iload_n hx hb d_Go_begin_20 rfl (lv_at hl 2 rfl) ?_
          refine lv_iload_n hx hb d_Go_begin_21 rfl (lv_at hl 2 rfl) ?_
          refine lv_iload_n hx hb d_Go_begin_22 rfl (lv_at hl 1 rfl) ?_
          refine lv_icmp_ge (tgt := 41) hx hb d_Go_begin_23 (by decide) (fun c8 => ?_) (fun c8 => ?_)
          · replace hg := tq_if_t c8 hg
            refine lv_lconst (v := 0) hx hb d_Go_begin_41 (by decide) ?_
            obtain ⟨g9, hg⟩ := tq_gd_s hg
            refine va_last hx hb hK hP hD hS 19 1 rfl rfl g9 d_Go_begin_42 (fun H locs hP hD hS => ?_)
            obtain ⟨σ10, eσ10, hg⟩ := tq_lj_s hg
            replace hP : va_P (dC, dI) tq_cl (wo cI cL cZ ad σ10) H := by rw [eσ10, ← ws_l2]; exact hP
            replace hD : va_D A (wo cI cL cZ ad σ10) := by rw [eσ10, ← ws_l2]; exact hD
            obtain ⟨v11, ev11, hg⟩ := tq_lj_s hg
            refine lv_iinc (v := v11) (lv' := [(2, .int v11), (0, .ref (ad 3)), (1, .int x1)]) hx hb d_Go_begin_43 hl (k := 2) rfl (by rw [ev11]; rfl) (by decide) rfl (fun ls hl => ?_)
            refine lv_goto (tgt := 10) hx hb d_Go_begin_46 (by decide) ?_
            exact ih.2.1 hP hD hS (lv_sub hl [1, 2, 0] rfl) (tq_gi hg hn)
          · replace hg := tq_if_f c8 hg
            refine lv_aload_n hx hb d_Go_begin_26 rfl (lv_at hl 0 rfl) ?_
            refine lv_aload_n hx hb d_Go_begin_27 rfl (lv_at hl 0 rfl) ?_
            refine va_get (D := (dC, dI)) (ci := 3) (v := .ref (ad 1)) (C := "TableauNodes$GoodTypes") (T := F_Go) (N := 15) hx hb hts in_Go hown hK hP 3 rfl rfl 0 (by decide) (hts _ tw_117) (fun _ h9 => h9) rfl d_Go_begin_28 ?_
            obtain ⟨r13, σ14, f12, hg⟩ := tq_ob_s hg
            refine tq_aL (va_runV (As := []) (rest := [.ref (ad 3), .int x2, .ref (ad 19)]) ⟨hx, hb, hml, hown, hts⟩ (c_Co_typesInWord l dC dI cI cL cZ ad tt H.size σ   r13 σ14 f12) (cwV 0 hts (tq_gV tw_346 tw_347 tw_348 tw_2 tw_349) rfl rfl rfl (by decide +kernel) ⟨Nat.le_of_ble_eq_true rfl, Nat.le_of_ble_eq_true rfl⟩) ⟨tq_bl, va_recv hK hP (ci := 1) (q0 := 1) rfl rfl, (tq_pr hP hK hD hS hA hZ hN)⟩ rfl rfl hl.1 rfl (lv_room (Nat.le_of_ble_eq_true rfl)) d_Go_begin_31 ⟨Nat.zero_le _, Nat.zero_le _⟩) hD hS hA (fun H locs hP hD hS => ?_)
            refine lv_iload_n hx hb d_Go_begin_34 rfl (lv_at hl 2 rfl) ?_
            obtain ⟨r16, σ17, f15, hg⟩ := tq_ob_s hg
            refine tq_aL (va_runV (As := [.long r13, .int x2]) (rest := [.int x2, .ref (ad 19)]) ⟨hx, hb, hml, hown, hts⟩ (c_Go_keptByAxioms l dC dI cI cL cZ ad tt H.size σ14 x2 r13 r16 σ17 f15) (cwV 2 hts (tq_gV tw_350 tw_352 ts_9 tw_4 tw_353) rfl rfl rfl (by decide +kernel) ⟨Nat.le_of_ble_eq_true rfl, Nat.le_of_ble_eq_true rfl⟩) ⟨tq_bl, va_recv hK hP (ci := 3) (q0 := 3) rfl rfl, (tq_pr hP hK hD hS hA hZ hN)⟩ rfl rfl hl.1 rfl (lv_room (Nat.le_of_ble_eq_true rfl)) d_Go_begin_35 ⟨Nat.zero_le _, Nat.zero_le _⟩) hD hS hA (fun H locs hP hD hS => ?_)
            refine lv_goto (tgt := 42) hx hb d_Go_begin_38 (by decide) ?_
            obtain ⟨g18, hg⟩ := tq_gd_s hg
            refine va_last hx hb hK hP hD hS 19 1 rfl rfl g18 d_Go_begin_42 (fun H locs hP hD hS => ?_)
            obtain ⟨σ19, eσ19, hg⟩ := tq_lj_s hg
            replace hP : va_P (dC, dI) tq_cl (wo cI cL cZ ad σ19) H := by rw [eσ19, ← ws_l2]; exact hP
            replace hD : va_D A (wo cI cL cZ ad σ19) := by rw [eσ19, ← ws_l2]; exact hD
            obtain ⟨v20, ev20, hg⟩ := tq_lj_s hg
            refine lv_iinc (v := v20) (lv' := [(2, .int v20), (0, .ref (ad 3)), (1, .int x1)]) hx hb d_Go_begin_43 hl (k := 2) rfl (by rw [ev20]; rfl) (by decide) rfl (fun ls hl => ?_)
            refine lv_goto (tgt := 10) hx hb d_Go_begin_46 (by decide) ?_
            exact ih.2.1 hP hD hS (lv_sub hl [1, 2, 0] rfl) (tq_gi hg hn)
      · intro x2 x3 σ H locs ls hP hD hS hl h9
        obtain ⟨q9, hg, hn⟩ := tq_go_s h9 (show ¬ (59 : Nat) = tq_rt by decide)
        replace hg : bk_Go_begin_59 [x2, x3] [] σ = some q9 := hg
        unfold bk_Go_begin_59 at hg
        refine lv_iload_n hx hb d_Go_begin_59 rfl (lv_at hl 2 rfl) ?_
        refine lv_iload_n hx hb d_Go_begin_60 rfl (lv_at hl 1 rfl) ?_
        refine lv_icmp_ge (tgt := 97) hx hb d_Go_begin_61 (by decide) (fun c21 => ?_) (fun c21 => ?_)
        · replace hg := tq_if_t c21 hg
          exact W.vret hx hb hr (fun t ht hW => ⟨⟨σ, rfl, tq_grV hg hn, by rw [ht]; exact hP, va_K.moved hW.alike hK, hD⟩, hS.F ht⟩) hS.2.2 d_Go_begin_97
        · replace hg := tq_if_f c21 hg
          refine lv_iload_n hx hb d_Go_begin_64 rfl (lv_at hl 2 rfl) ?_
          refine lv_sipush (v := 1024) hx hb d_Go_begin_65 (by decide) ?_
          refine lv_icmp_ge (tgt := 97) hx hb d_Go_begin_68 (by decide) (fun c22 => ?_) (fun c22 => ?_)
          · replace hg := tq_if_t c22 hg
            exact W.vret hx hb hr (fun t ht hW => ⟨⟨σ, rfl, tq_grV hg hn, by rw [ht]; exact hP, va_K.moved hW.alike hK, hD⟩, hS.F ht⟩) hS.2.2 d_Go_begin_97
          · replace hg := tq_if_f c22 hg
            refine lv_aload_n hx hb d_Go_begin_71 rfl (lv_at hl 0 rfl) ?_
            refine va_get (D := (dC, dI)) (ci := 3) (v := .ref (ad 21)) (C := "TableauNodes$GoodTypes") (T := F_Go) (N := 15) hx hb hts in_Go hown hK hP 3 rfl rfl 9 (by decide) (hts _ tw_126) (fun _ h9 => h9) rfl d_Go_begin_72 ?_
            refine lv_iload_n hx hb d_Go_begin_75 rfl (lv_at hl 2 rfl) ?_
            refine lv_aload_n hx hb d_Go_begin_76 rfl (lv_at hl 0 rfl) ?_
            refine lv_iload_n hx hb d_Go_begin_77 rfl (lv_at hl 2 rfl) ?_
            obtain ⟨r24, σ25, f23, hg⟩ := tq_ob_s hg
            refine tq_aI (va_runV (As := [.int x3]) (rest := [.int x3, .ref (ad 21)]) ⟨hx, hb, hml, hown, hts⟩ (c_Go_isThere l dC dI cI cL cZ ad tt H.size σ x3  r24 σ25 f23) (cwV 1 hts (tq_gV tw_357 tw_359 ts_10 tw_4 tw_360) rfl rfl rfl (by decide +kernel) ⟨Nat.le_of_ble_eq_true rfl, Nat.le_of_ble_eq_true rfl⟩) ⟨tq_bl, va_recv hK hP (ci := 3) (q0 := 3) rfl rfl, (tq_pr hP hK hD hS hA hZ hN)⟩ rfl rfl hl.1 rfl (lv_room (Nat.le_of_ble_eq_true rfl)) d_Go_begin_78 ⟨Nat.zero_le _, Nat.zero_le _⟩) hD hS hA (fun H locs hP hD hS => ?_)
            refine lv_if_eq (tgt := 88) hx hb d_Go_begin_81 (by decide) (fun c26 => ?_) (fun c26 => ?_)
            · replace hg := tq_if_t c26 hg
              refine lv_bipush (v := (-2)) hx hb d_Go_begin_88 (by decide) ?_
              obtain ⟨g27, hg⟩ := tq_gd_s hg
              refine va_iast hx hb hK hP hD hS 21 0 rfl rfl g27 d_Go_begin_90 (fun H locs hP hD hS => ?_)
              obtain ⟨σ28, eσ28, hg⟩ := tq_lj_s hg
              replace hP : va_P (dC, dI) tq_cl (wo cI cL cZ ad σ28) H := by rw [eσ28, ← ws_i11]; exact hP
              replace hD : va_D A (wo cI cL cZ ad σ28) := by rw [eσ28, ← ws_i11]; exact hD
              obtain ⟨v29, ev29, hg⟩ := tq_lj_s hg
              refine lv_iinc (v := v29) (lv' := [(3, .int v29), (0, .ref (ad 3)), (2, .int x2)]) hx hb d_Go_begin_91 hl (k := 2) rfl (by rw [ev29]; rfl) (by decide) rfl (fun ls hl => ?_)
              refine lv_goto (tgt := 59) hx hb d_Go_begin_94 (by decide) ?_
              exact ih.2.2 hP hD hS (lv_sub hl [1, 2, 0] rfl) (tq_gi hg hn)
            · replace hg := tq_if_f c26 hg
              refine lv_iconst (v := 0) hx hb d_Go_begin_84 (by decide) ?_
              refine lv_goto (tgt := 90) hx hb d_Go_begin_85 (by decide) ?_
              obtain ⟨g30, hg⟩ := tq_gd_s hg
              refine va_iast hx hb hK hP hD hS 21 0 rfl rfl g30 d_Go_begin_90 (fun H locs hP hD hS => ?_)
              obtain ⟨σ31, eσ31, hg⟩ := tq_lj_s hg
              replace hP : va_P (dC, dI) tq_cl (wo cI cL cZ ad σ31) H := by rw [eσ31, ← ws_i11]; exact hP
              replace hD : va_D A (wo cI cL cZ ad σ31) := by rw [eσ31, ← ws_i11]; exact hD
              obtain ⟨v32, ev32, hg⟩ := tq_lj_s hg
              refine lv_iinc (v := v32) (lv' := [(3, .int v32), (0, .ref (ad 3)), (2, .int x2)]) hx hb d_Go_begin_91 hl (k := 2) rfl (by rw [ev32]; rfl) (by decide) rfl (fun ls hl => ?_)
              refine lv_goto (tgt := 59) hx hb d_Go_begin_94 (by decide) ?_
              exact ih.2.2 hP hD hS (lv_sub hl [1, 2, 0] rfl) (tq_gi hg hn)
  exact (key n0).1 hP hD hS hl h0
noncomputable def bk_Go_spreadServed_0 : List Int32 → List Int64 → tq_S → Option tq_C
  | [x1, x2, x3], [], σ => some (6, [x1, x2, x3, 0, 0], [], σ)
  | _, _, _ => none
noncomputable def bk_Go_spreadServed_6 : List Int32 → List Int64 → tq_S → Option tq_C
  | [x1, x2, x3, x4, x5], [], σ => if x2 ≤ x4 then some (tq_rt, [], [], σ) else if (x5 &&& x3) = 0 then some (40, [x1, x2, x3, x4, x5], [], σ) else tq_gd x5 1024 (tq_gd (x5 &&& (x3 ^^^ (-1))) 1024 (tq_gd x5 1024 (tq_lj (iput σ 12 x5.toNatClampNeg ((ia σ 12 x5) ||| (ia σ 12 (x5 &&& (x3 ^^^ (-1)))))) (fun σ6 => some (40, [x1, x2, x3, x4, x5], [], σ6)))))
  | _, _, _ => none
noncomputable def bk_Go_spreadServed_40 : List Int32 → List Int64 → tq_S → Option tq_C
  | [x1, x2, x3, x4, x5], [], σ => tq_lj (x4 + 1) (fun v7 => tq_lj ((x5 - x1) &&& x1) (fun v8 => some (6, [x1, x2, x3, v7, v8], [], σ)))
  | _, _, _ => none
noncomputable def st_Go_spreadServed (c : tq_C) : Option tq_C := if c.1 = 0 then bk_Go_spreadServed_0 c.2.1 c.2.2.1 c.2.2.2 else if c.1 = 6 then bk_Go_spreadServed_6 c.2.1 c.2.2.1 c.2.2.2 else if c.1 = 40 then bk_Go_spreadServed_40 c.2.1 c.2.2.1 c.2.2.2 else none
set_option maxHeartbeats 40000000 in
set_option maxRecDepth 100000 in
theorem c_Go_spreadServed (l : Launch) (dC : Nat → ClassId) (dI : Nat → Nat → Nat) (cI cL cZ : ClassId) (ad : Nat → Nat) (tt : Nat) (sz : Nat) (σ : tq_S) (a1 : Int32) (a2 : Int32) (a3 : Int32) (σ' : tq_S) (hf : tq_fV st_Go_spreadServed (0, [a1, a2, a3], [], σ) = some ((), σ')) : Met l y_Go_spreadServed w_Go_spreadServed ({ frames := 0, cells := 0, slots := 0, locals := 0 } : Room) (va_Pc [.ref (ad 3), .int a1, .int a2, .int a3] (tq_B dC dI cI cL cZ tt (wo cI cL cZ ad σ) sz)) (va_Qv (fun (u : tq_S) => u = σ') (tq_E dC dI cI cL cZ (wo cI cL cZ ad) (va_A (wo cI cL cZ ad σ) sz)) (va_A (wo cI cL cZ ad σ) sz)) 0 0 (va_A (wo cI cL cZ ad σ) sz) := by
  obtain ⟨n0, h0⟩ := tq_fV_to hf
  refine Met.ofW (cc := prog_3_method_22_code) (maxL := 6) (ret := none) (by decide) rfl ?_
  intro p e s m args below meth c s₁ B hml hv
  obtain ⟨rfl, hsz, hP, hK, hD0, hZ, hN⟩ := hv
  have hx := B.exec
  have hb := B.bytes
  have hr := B.returns
  have hts : ∀ w ∈ tq_T, w.before _ s = true := fun w h => atoms_spec (ws := w_Go_spreadServed) B.pre w (List.mem_cons_of_mem _ h)
  have hown : s.vm.findClass "TableauNodes$GoodTypes" = some m.cls := findClass_of_methodNamed B.named
  have hlocks := B.notSynchronized
  subst hsz
  have hD := hD0.self (sz := s.heap.size)
  have hS : va_S (va_A (wo cI cL cZ ad σ) s.heap.size) s.heap s.heap [] := va_S.rf
  have hA : ∀ q : Nat, s.heap.size ≤ q → va_A (wo cI cL cZ ad σ) s.heap.size q := fun q h => Or.inr h
  generalize va_A (wo cI cL cZ ad σ) s.heap.size = A at hD hS hA hZ ⊢
  have hl := lv_entry ([.ref (ad 3), .int a1, .int a2, .int a3]) (n := 6) (Nat.le_of_ble_eq_true rfl)
  rw [lg_entry_eq]
  generalize (lg_sl ([.ref (ad 3), .int a1, .int a2, .int a3]) ++ List.replicate (6 - (lg_sl ([.ref (ad 3), .int a1, .int a2, .int a3])).length) Slot.unset).toArray = ls at hl ⊢
  have hl : lv_has ls 6 [(0, .ref (ad 3)), (1, .int a1), (2, .int a2), (3, .int a3)] := hl
  have key : ∀ n : Nat, (∀ {x1 x2 x3 : Int32} {σ : tq_S} {H : Heap} {locs : List Loc} {ls : Array Slot}, va_P (dC, dI) tq_cl (wo cI cL cZ ad σ) H → va_D A (wo cI cL cZ ad σ) → va_S A s.heap H locs → lv_has ls 6 [(0, .ref (ad 3)), (1, .int x1), (2, .int x2), (3, .int x3)] → tq_go st_Go_spreadServed n (0, [x1, x2, x3], [], σ) = some (tq_rt, [], [], σ') → W p l e (headSpec w_Go_spreadServed ({ frames := 0, cells := 0, slots := 0, locals := 0 } : Room)).room s m ([.ref (ad 3), .int a1, .int a2, .int a3] : List Value).toArray below meth c H locs 0 0 (MQ below (va_Qv (fun (u : tq_S) => u = σ') (tq_E dC dI cI cL cZ (wo cI cL cZ ad) A) A) ([.ref (ad 3), .int a1, .int a2, .int a3] : List Value).toArray s 0 0 A) (F0 m 0 ls [])) ∧ (∀ {x1 x2 x3 x4 x5 : Int32} {σ : tq_S} {H : Heap} {locs : List Loc} {ls : Array Slot}, va_P (dC, dI) tq_cl (wo cI cL cZ ad σ) H → va_D A (wo cI cL cZ ad σ) → va_S A s.heap H locs → lv_has ls 6 [(0, .ref (ad 3)), (1, .int x1), (2, .int x2), (3, .int x3), (4, .int x4), (5, .int x5)] → tq_go st_Go_spreadServed n (6, [x1, x2, x3, x4, x5], [], σ) = some (tq_rt, [], [], σ') → W p l e (headSpec w_Go_spreadServed ({ frames := 0, cells := 0, slots := 0, locals := 0 } : Room)).room s m ([.ref (ad 3), .int a1, .int a2, .int a3] : List Value).toArray below meth c H locs 0 0 (MQ below (va_Qv (fun (u : tq_S) => u = σ') (tq_E dC dI cI cL cZ (wo cI cL cZ ad) A) A) ([.ref (ad 3), .int a1, .int a2, .int a3] : List Value).toArray s 0 0 A) (F0 m 6 ls [])) ∧ (∀ {x1 x2 x3 x4 x5 : Int32} {σ : tq_S} {H : Heap} {locs : List Loc} {ls : Array Slot}, va_P (dC, dI) tq_cl (wo cI cL cZ ad σ) H → va_D A (wo cI cL cZ ad σ) → va_S A s.heap H locs → lv_has ls 6 [(0, .ref (ad 3)), (1, .int x1), (2, .int x2), (3, .int x3), (4, .int x4), (5, .int x5)] → tq_go st_Go_spreadServed n (40, [x1, x2, x3, x4, x5], [], σ) = some (tq_rt, [], [], σ') → W p l e (headSpec w_Go_spreadServed ({ frames := 0, cells := 0, slots := 0, locals := 0 } : Room)).room s m ([.ref (ad 3), .int a1, .int a2, .int a3] : List Value).toArray below meth c H locs 0 0 (MQ below (va_Qv (fun (u : tq_S) => u = σ') (tq_E dC dI cI cL cZ (wo cI cL cZ ad) A) A) ([.ref (ad 3), .int a1, .int a2, .int a3] : List Value).toArray s 0 0 A) (F0 m 40 ls [])) := by
    intro n
    induction n with
    | zero => exact ⟨(fun _ _ _ _ h => by cases h), (fun _ _ _ _ h => by cases h), (fun _ _ _ _ h => by cases h)⟩
    | succ n ih =>
      refine ⟨?_, ?_, ?_⟩
      · intro x1 x2 x3 σ H locs ls hP hD hS hl h9
        obtain ⟨q9, hg, hn⟩ := tq_go_s h9 (show ¬ (0 : Nat) = tq_rt by decide)
        replace hg : bk_Go_spreadServed_0 [x1, x2, x3] [] σ = some q9 := hg
        unfold bk_Go_spreadServed_0 at hg
        refine lv_iconst (v := 0) hx hb d_Go_spreadServed_0 (by decide) ?_
        refine lv_istore (lv' := [(4, .int 0), (0, .ref (ad 3)), (1, .int x1), (2, .int x2), (3, .int x3)]) hx hb d_Go_spreadServed_1 hl (by decide) rfl (fun ls hl => ?_)
        refine lv_iconst (v := 0) hx hb d_Go_spreadServed_3 (by decide) ?_
        refine lv_istore (lv' := [(5, .int 0), (4, .int 0), (0, .ref (ad 3)), (1, .int x1), (2, .int x2), (3, .int x3)]) hx hb d_Go_spreadServed_4 hl (by decide) rfl (fun ls hl => ?_)
        exact ih.2.1 hP hD hS (lv_sub hl [2, 3, 4, 5, 1, 0] rfl) (tq_gi hg hn)
      · intro x1 x2 x3 x4 x5 σ H locs ls hP hD hS hl h9
        obtain ⟨q9, hg, hn⟩ := tq_go_s h9 (show ¬ (6 : Nat) = tq_rt by decide)
        replace hg : bk_Go_spreadServed_6 [x1, x2, x3, x4, x5] [] σ = some q9 := hg
        unfold bk_Go_spreadServed_6 at hg
        refine lv_iload hx hb d_Go_spreadServed_6 (lv_at hl 4 rfl) ?_
        refine lv_iload_n hx hb d_Go_spreadServed_8 rfl (lv_at hl 2 rfl) ?_
        refine lv_icmp_ge (tgt := 54) hx hb d_Go_spreadServed_9 (by decide) (fun c1 => ?_) (fun c1 => ?_)
        · replace hg := tq_if_t c1 hg
          exact W.vret hx hb hr (fun t ht hW => ⟨⟨σ, rfl, tq_grV hg hn, by rw [ht]; exact hP, va_K.moved hW.alike hK, hD⟩, hS.F ht⟩) hS.2.2 d_Go_spreadServed_54
        · replace hg := tq_if_f c1 hg
          refine lv_iload hx hb d_Go_spreadServed_12 (lv_at hl 5 rfl) ?_
          refine lv_iload_n hx hb d_Go_spreadServed_14 rfl (lv_at hl 3 rfl) ?_
          refine lv_iand hx hb d_Go_spreadServed_15 ?_
          refine lv_if_eq (tgt := 40) hx hb d_Go_spreadServed_16 (by decide) (fun c2 => ?_) (fun c2 => ?_)
          · replace hg := tq_if_t c2 hg
            exact ih.2.2 hP hD hS (lv_sub hl [0, 1, 2, 3, 4, 5] rfl) (tq_gi hg hn)
          · replace hg := tq_if_f c2 hg
            refine lv_aload_n hx hb d_Go_spreadServed_19 rfl (lv_at hl 0 rfl) ?_
            refine va_get (D := (dC, dI)) (ci := 3) (v := .ref (ad 22)) (C := "TableauNodes$GoodTypes") (T := F_Go) (N := 15) hx hb hts in_Go hown hK hP 3 rfl rfl 10 (by decide) (hts _ tw_127) (fun _ h9 => h9) rfl d_Go_spreadServed_20 ?_
            refine lv_iload hx hb d_Go_spreadServed_23 (lv_at hl 5 rfl) ?_
            refine lv_dup2_11 hx hb d_Go_spreadServed_25 rfl rfl ?_
            obtain ⟨g3, hg⟩ := tq_gd_s hg
            refine va_iald hx hb hK hP 22 0 rfl rfl g3 d_Go_spreadServed_26 ?_
            refine lv_aload_n hx hb d_Go_spreadServed_27 rfl (lv_at hl 0 rfl) ?_
            refine va_get (D := (dC, dI)) (ci := 3) (v := .ref (ad 22)) (C := "TableauNodes$GoodTypes") (T := F_Go) (N := 15) hx hb hts in_Go hown hK hP 3 rfl rfl 10 (by decide) (hts _ tw_127) (fun _ h9 => h9) rfl d_Go_spreadServed_28 ?_
            refine lv_iload hx hb d_Go_spreadServed_31 (lv_at hl 5 rfl) ?_
            refine lv_iload_n hx hb d_Go_spreadServed_33 rfl (lv_at hl 3 rfl) ?_
            refine lv_iconst (v := (-1)) hx hb d_Go_spreadServed_34 (by decide) ?_
            refine lv_ixor hx hb d_Go_spreadServed_35 ?_
            refine lv_iand hx hb d_Go_spreadServed_36 ?_
            obtain ⟨g4, hg⟩ := tq_gd_s hg
            refine va_iald hx hb hK hP 22 0 rfl rfl g4 d_Go_spreadServed_37 ?_
            refine lv_ior hx hb d_Go_spreadServed_38 ?_
            obtain ⟨g5, hg⟩ := tq_gd_s hg
            refine va_iast hx hb hK hP hD hS 22 0 rfl rfl g5 d_Go_spreadServed_39 (fun H locs hP hD hS => ?_)
            obtain ⟨σ6, eσ6, hg⟩ := tq_lj_s hg
            replace hP : va_P (dC, dI) tq_cl (wo cI cL cZ ad σ6) H := by rw [eσ6, ← ws_i12]; exact hP
            replace hD : va_D A (wo cI cL cZ ad σ6) := by rw [eσ6, ← ws_i12]; exact hD
            exact ih.2.2 hP hD hS (lv_sub hl [0, 1, 2, 3, 4, 5] rfl) (tq_gi hg hn)
      · intro x1 x2 x3 x4 x5 σ H locs ls hP hD hS hl h9
        obtain ⟨q9, hg, hn⟩ := tq_go_s h9 (show ¬ (40 : Nat) = tq_rt by decide)
        replace hg : bk_Go_spreadServed_40 [x1, x2, x3, x4, x5] [] σ = some q9 := hg
        unfold bk_Go_spreadServed_40 at hg
        obtain ⟨v7, ev7, hg⟩ := tq_lj_s hg
        refine lv_iinc (v := v7) (lv' := [(4, .int v7), (0, .ref (ad 3)), (1, .int x1), (2, .int x2), (3, .int x3), (5, .int x5)]) hx hb d_Go_spreadServed_40 hl (k := 4) rfl (by rw [ev7]; rfl) (by decide) rfl (fun ls hl => ?_)
        refine lv_iload hx hb d_Go_spreadServed_43 (lv_at hl 5 rfl) ?_
        refine lv_iload_n hx hb d_Go_spreadServed_45 rfl (lv_at hl 2 rfl) ?_
        refine lv_isub hx hb d_Go_spreadServed_46 ?_
        refine lv_iload_n hx hb d_Go_spreadServed_47 rfl (lv_at hl 2 rfl) ?_
        refine lv_iand hx hb d_Go_spreadServed_48 ?_
        obtain ⟨v8, ev8, hg⟩ := tq_lj_s hg
        refine tq_nmi ev8 ?_
        refine lv_istore (lv' := [(5, .int v8), (4, .int v7), (0, .ref (ad 3)), (1, .int x1), (2, .int x2), (3, .int x3)]) hx hb d_Go_spreadServed_49 hl (by decide) rfl (fun ls hl => ?_)
        refine lv_goto (tgt := 6) hx hb d_Go_spreadServed_51 (by decide) ?_
        exact ih.2.1 hP hD hS (lv_sub hl [2, 3, 4, 5, 1, 0] rfl) (tq_gi hg hn)
  exact (key n0).1 hP hD hS hl h0
noncomputable def bk_Go_findServed_0 : List Int32 → List Int64 → tq_S → Option tq_C
  | [x1], [], σ => tq_gd x1 4 (tq_lj ((ia σ 10 x1) &&& 1023) (fun v2 => tq_ob (tq_fI st_Ji_bitCount (0, [v2], [], σ)) (fun r4 σ5 => tq_lj (1 <<< (r4 &&& 31)) (fun v6 => some (24, [x1, v2, v6, 0, 0], [], σ5)))))
  | _, _, _ => none
noncomputable def bk_Go_findServed_24 : List Int32 → List Int64 → tq_S → Option tq_C
  | [x1, x2, x3, x4, x5], [], σ => if x3 ≤ x4 then tq_ob (tq_fI st_Co_typeCount (0, [], [], σ)) (fun r9 σ10 => some (64, [x1, x2, x3, r9, 0], [], σ10)) else tq_gd x5 1024 (tq_lj (iput σ 12 x5.toNatClampNeg 0) (fun σ12 => tq_lj (x4 + 1) (fun v13 => tq_lj ((x5 - x2) &&& x2) (fun v14 => some (24, [x1, x2, x3, v13, v14], [], σ12)))))
  | _, _, _ => none
noncomputable def bk_Go_findServed_64 : List Int32 → List Int64 → tq_S → Option tq_C
  | [x1, x2, x3, x4, x5], [], σ => if x4 ≤ x5 then some (129, [x2, x3, 0], [], σ) else if 1024 ≤ x5 then some (129, [x2, x3, 0], [], σ) else tq_ob (tq_fI st_Go_isThere (0, [x5], [], σ)) (fun r18 σ19 => if r18 = 0 then tq_lj (x5 + 1) (fun v21 => some (64, [x1, x2, x3, x4, v21], [], σ19)) else tq_ob (tq_fI st_Co_inners (0, [x5], [], σ19)) (fun r23 σ24 => tq_gd (r23 &&& x2) 1024 (tq_gd x1 4 (tq_gd (r23 &&& x2) 1024 (tq_lj (iput σ24 12 (r23 &&& x2).toNatClampNeg ((ia σ24 12 (r23 &&& x2)) ||| (r23 &&& (ia σ24 9 x1)))) (fun σ28 => tq_lj (x5 + 1) (fun v29 => some (64, [x1, x2, x3, x4, v29], [], σ28))))))))
  | _, _, _ => none
noncomputable def bk_Go_findServed_129 : List Int32 → List Int64 → tq_S → Option tq_C
  | [x2, x3, x5], [], σ => if 10 ≤ x5 then some (tq_rt, [], [], σ) else tq_ob (tq_fI st_Tn_hasBit (0, [x5], [x2.toInt64], σ)) (fun r32 σ33 => if r32 = 0 then tq_lj (x5 + 1) (fun v35 => some (129, [x2, x3, v35], [], σ33)) else tq_ob (tq_fV st_Go_spreadServed (0, [x2, x3, (1 <<< (x5 &&& 31))], [], σ33)) (fun _ σ38 => tq_lj (x5 + 1) (fun v39 => some (129, [x2, x3, v39], [], σ38))))
  | _, _, _ => none
noncomputable def st_Go_findServed (c : tq_C) : Option tq_C := if c.1 = 0 then bk_Go_findServed_0 c.2.1 c.2.2.1 c.2.2.2 else if c.1 = 24 then bk_Go_findServed_24 c.2.1 c.2.2.1 c.2.2.2 else if c.1 = 64 then bk_Go_findServed_64 c.2.1 c.2.2.1 c.2.2.2 else if c.1 = 129 then bk_Go_findServed_129 c.2.1 c.2.2.1 c.2.2.2 else none
set_option maxHeartbeats 40000000 in
set_option maxRecDepth 100000 in
theorem c_Go_findServed (l : Launch) (dC : Nat → ClassId) (dI : Nat → Nat → Nat) (cI cL cZ : ClassId) (ad : Nat → Nat) (tt : Nat) (sz : Nat) (σ : tq_S) (a1 : Int32) (σ' : tq_S) (hf : tq_fV st_Go_findServed (0, [a1], [], σ) = some ((), σ')) : Met l y_Go_findServed w_Go_findServed ({ frames := 2, cells := 0, slots := 0, locals := 43 } : Room) (va_Pc [.ref (ad 3), .int a1] (tq_B dC dI cI cL cZ tt (wo cI cL cZ ad σ) sz)) (va_Qv (fun (u : tq_S) => u = σ') (tq_E dC dI cI cL cZ (wo cI cL cZ ad) (va_A (wo cI cL cZ ad σ) sz)) (va_A (wo cI cL cZ ad σ) sz)) 0 0 (va_A (wo cI cL cZ ad σ) sz) := by
  obtain ⟨n0, h0⟩ := tq_fV_to hf
  refine Met.ofW (cc := prog_3_method_21_code) (maxL := 7) (ret := none) (by decide) rfl ?_
  intro p e s m args below meth c s₁ B hml hv
  obtain ⟨rfl, hsz, hP, hK, hD0, hZ, hN⟩ := hv
  have hx := B.exec
  have hb := B.bytes
  have hr := B.returns
  have hts : ∀ w ∈ tq_T, w.before _ s = true := fun w h => atoms_spec (ws := w_Go_findServed) B.pre w (List.mem_cons_of_mem _ h)
  have hown : s.vm.findClass "TableauNodes$GoodTypes" = some m.cls := findClass_of_methodNamed B.named
  have hlocks := B.notSynchronized
  subst hsz
  have hD := hD0.self (sz := s.heap.size)
  have hS : va_S (va_A (wo cI cL cZ ad σ) s.heap.size) s.heap s.heap [] := va_S.rf
  have hA : ∀ q : Nat, s.heap.size ≤ q → va_A (wo cI cL cZ ad σ) s.heap.size q := fun q h => Or.inr h
  generalize va_A (wo cI cL cZ ad σ) s.heap.size = A at hD hS hA hZ ⊢
  have hl := lv_entry ([.ref (ad 3), .int a1]) (n := 7) (Nat.le_of_ble_eq_true rfl)
  rw [lg_entry_eq]
  generalize (lg_sl ([.ref (ad 3), .int a1]) ++ List.replicate (7 - (lg_sl ([.ref (ad 3), .int a1])).length) Slot.unset).toArray = ls at hl ⊢
  have hl : lv_has ls 7 [(0, .ref (ad 3)), (1, .int a1)] := hl
  have key : ∀ n : Nat, (∀ {x1 : Int32} {σ : tq_S} {H : Heap} {locs : List Loc} {ls : Array Slot}, va_P (dC, dI) tq_cl (wo cI cL cZ ad σ) H → va_D A (wo cI cL cZ ad σ) → va_S A s.heap H locs → lv_has ls 7 [(0, .ref (ad 3)), (1, .int x1)] → tq_go st_Go_findServed n (0, [x1], [], σ) = some (tq_rt, [], [], σ') → W p l e (headSpec w_Go_findServed ({ frames := 2, cells := 0, slots := 0, locals := 43 } : Room)).room s m ([.ref (ad 3), .int a1] : List Value).toArray below meth c H locs 0 0 (MQ below (va_Qv (fun (u : tq_S) => u = σ') (tq_E dC dI cI cL cZ (wo cI cL cZ ad) A) A) ([.ref (ad 3), .int a1] : List Value).toArray s 0 0 A) (F0 m 0 ls [])) ∧ (∀ {x1 x2 x3 x4 x5 : Int32} {σ : tq_S} {H : Heap} {locs : List Loc} {ls : Array Slot}, va_P (dC, dI) tq_cl (wo cI cL cZ ad σ) H → va_D A (wo cI cL cZ ad σ) → va_S A s.heap H locs → lv_has ls 7 [(0, .ref (ad 3)), (1, .int x1), (2, .int x2), (3, .int x3), (4, .int x4), (5, .int x5)] → tq_go st_Go_findServed n (24, [x1, x2, x3, x4, x5], [], σ) = some (tq_rt, [], [], σ') → W p l e (headSpec w_Go_findServed ({ frames := 2, cells := 0, slots := 0, locals := 43 } : Room)).room s m ([.ref (ad 3), .int a1] : List Value).toArray below meth c H locs 0 0 (MQ below (va_Qv (fun (u : tq_S) => u = σ') (tq_E dC dI cI cL cZ (wo cI cL cZ ad) A) A) ([.ref (ad 3), .int a1] : List Value).toArray s 0 0 A) (F0 m 24 ls [])) ∧ (∀ {x1 x2 x3 x4 x5 : Int32} {σ : tq_S} {H : Heap} {locs : List Loc} {ls : Array Slot}, va_P (dC, dI) tq_cl (wo cI cL cZ ad σ) H → va_D A (wo cI cL cZ ad σ) → va_S A s.heap H locs → lv_has ls 7 [(0, .ref (ad 3)), (1, .int x1), (2, .int x2), (3, .int x3), (4, .int x4), (5, .int x5)] → tq_go st_Go_findServed n (64, [x1, x2, x3, x4, x5], [], σ) = some (tq_rt, [], [], σ') → W p l e (headSpec w_Go_findServed ({ frames := 2, cells := 0, slots := 0, locals := 43 } : Room)).room s m ([.ref (ad 3), .int a1] : List Value).toArray below meth c H locs 0 0 (MQ below (va_Qv (fun (u : tq_S) => u = σ') (tq_E dC dI cI cL cZ (wo cI cL cZ ad) A) A) ([.ref (ad 3), .int a1] : List Value).toArray s 0 0 A) (F0 m 64 ls [])) ∧ (∀ {x2 x3 x5 : Int32} {σ : tq_S} {H : Heap} {locs : List Loc} {ls : Array Slot}, va_P (dC, dI) tq_cl (wo cI cL cZ ad σ) H → va_D A (wo cI cL cZ ad σ) → va_S A s.heap H locs → lv_has ls 7 [(0, .ref (ad 3)), (2, .int x2), (3, .int x3), (5, .int x5)] → tq_go st_Go_findServed n (129, [x2, x3, x5], [], σ) = some (tq_rt, [], [], σ') → W p l e (headSpec w_Go_findServed ({ frames := 2, cells := 0, slots := 0, locals := 43 } : Room)).room s m ([.ref (ad 3), .int a1] : List Value).toArray below meth c H locs 0 0 (MQ below (va_Qv (fun (u : tq_S) => u = σ') (tq_E dC dI cI cL cZ (wo cI cL cZ ad) A) A) ([.ref (ad 3), .int a1] : List Value).toArray s 0 0 A) (F0 m 129 ls [])) := by
    intro n
    induction n with
    | zero => exact ⟨(fun _ _ _ _ h => by cases h), (fun _ _ _ _ h => by cases h), (fun _ _ _ _ h => by cases h), (fun _ _ _ _ h => by cases h)⟩
    | succ n ih =>
      refine ⟨?_, ?_, ?_, ?_⟩
      · intro x1 σ H locs ls hP hD hS hl h9
        obtain ⟨q9, hg, hn⟩ := tq_go_s h9 (show ¬ (0 : Nat) = tq_rt by decide)
        replace hg : bk_Go_findServed_0 [x1] [] σ = some q9 := hg
        unfold bk_Go_findServed_0 at hg
        refine lv_aload_n hx hb d_Go_findServed_0 rfl (lv_at hl 0 rfl) ?_
        refine va_get (D := (dC, dI)) (ci := 3) (v := .ref (ad 18)) (C := "TableauNodes$GoodTypes") (T := F_Go) (N := 15) hx hb hts in_Go hown hK hP 3 rfl rfl 6 (by decide) (hts _ tw_123) (fun _ h9 => h9) rfl d_Go_findServed_1 ?_
        refine lv_iload_n hx hb d_Go_findServed_4 rfl (lv_at hl 1 rfl) ?_
        obtain ⟨g1, hg⟩ := tq_gd_s hg
        refine va_iald hx hb hK hP 18 0 rfl rfl g1 d_Go_findServed_5 ?_
        refine lv_sipush (v := 1023) hx hb d_Go_findServed_6 (by decide) ?_
        refine lv_iand hx hb d_Go_findServed_9 ?_
        obtain ⟨v2, ev2, hg⟩ := tq_lj_s hg
        refine tq_nmi ev2 ?_
        refine lv_istore_n (lv' := [(2, .int v2), (0, .ref (ad 3)), (1, .int x1)]) hx hb d_Go_findServed_10 rfl hl (by decide) rfl (fun ls hl => ?_)
        refine lv_iconst (v := 1) hx hb d_Go_findServed_11 (by decide) ?_
        refine lv_iload_n hx hb d_Go_findServed_12 rfl (lv_at hl 0 rfl) ?_
        obtain ⟨r4, σ5, f3, hg⟩ := tq_ob_s hg
        refine tq_aI (va_runS (As := [.int v2]) (rest := [.int 1]) ⟨hx, hb, hml, hown, hts⟩ (c_Ji_bitCount l dC dI cI cL cZ ad tt H.size σ v2  r4 σ5 f3) (va_cwS 1 hts (tq_gS tw_374 tw_375 tw_7 tw_376) rfl rfl rfl (by decide +kernel) ⟨Nat.le_of_ble_eq_true rfl, Nat.le_of_ble_eq_true rfl⟩) ⟨tq_bl, (tq_pr hP hK hD hS hA hZ hN)⟩ rfl rfl hl.1 rfl (lv_room (Nat.le_of_ble_eq_true rfl)) d_Go_findServed_13 ⟨Nat.zero_le _, Nat.zero_le _⟩) hD hS hA (fun H locs hP hD hS => ?_)
        refine lv_ishl hx hb d_Go_findServed_16 ?_
        obtain ⟨v6, ev6, hg⟩ := tq_lj_s hg
        refine tq_nmi ev6 ?_
        refine lv_istore_n (lv' := [(3, .int v6), (2, .int v2), (0, .ref (ad 3)), (1, .int x1)]) hx hb d_Go_findServed_17 rfl hl (by decide) rfl (fun ls hl => ?_)
        refine lv_iconst (v := 0) hx hb d_Go_findServed_18 (by decide) ?_
        refine lv_istore (lv' := [(4, .int 0), (3, .int v6), (2, .int v2), (0, .ref (ad 3)), (1, .int x1)]) hx hb d_Go_findServed_19 hl (by decide) rfl (fun ls hl => ?_)
        refine lv_iconst (v := 0) hx hb d_Go_findServed_21 (by decide) ?_
        refine lv_istore (lv' := [(5, .int 0), (4, .int 0), (3, .int v6), (2, .int v2), (0, .ref (ad 3)), (1, .int x1)]) hx hb d_Go_findServed_22 hl (by decide) rfl (fun ls hl => ?_)
        exact ih.2.1 hP hD hS (lv_sub hl [4, 5, 3, 2, 1, 0] rfl) (tq_gi hg hn)
      · intro x1 x2 x3 x4 x5 σ H locs ls hP hD hS hl h9
        obtain ⟨q9, hg, hn⟩ := tq_go_s h9 (show ¬ (24 : Nat) = tq_rt by decide)
        replace hg : bk_Go_findServed_24 [x1, x2, x3, x4, x5] [] σ = some q9 := hg
        unfold bk_Go_findServed_24 at hg
        refine lv_iload hx hb d_Go_findServed_24 (lv_at hl 4 rfl) ?_
        refine lv_iload_n hx hb d_Go_findServed_26 rfl (lv_at hl 3 rfl) ?_
        refine lv_icmp_ge (tgt := 52) hx hb d_Go_findServed_27 (by decide) (fun c7 => ?_) (fun c7 => ?_)
        · replace hg := tq_if_t c7 hg
          refine lv_aload_n hx hb d_Go_findServed_52 rfl (lv_at hl 0 rfl) ?_
          refine va_get (D := (dC, dI)) (ci := 3) (v := .ref (ad 1)) (C := "TableauNodes$GoodTypes") (T := F_Go) (N := 15) hx hb hts in_Go hown hK hP 3 rfl rfl 0 (by decide) (hts _ tw_117) (fun _ h9 => h9) rfl d_Go_findServed_53 ?_
          obtain ⟨r9, σ10, f8, hg⟩ := tq_ob_s hg
          refine tq_aI (va_runV (As := []) (rest := []) ⟨hx, hb, hml, hown, hts⟩ (c_Co_typeCount l dC dI cI cL cZ ad tt H.size σ   r9 σ10 f8) (cwV 0 hts (tq_gV tw_356 tw_343 tw_344 tw_2 tw_345) rfl rfl rfl (by decide +kernel) ⟨Nat.le_of_ble_eq_true rfl, Nat.le_of_ble_eq_true rfl⟩) ⟨tq_bl, va_recv hK hP (ci := 1) (q0 := 1) rfl rfl, (tq_pr hP hK hD hS hA hZ hN)⟩ rfl rfl hl.1 rfl (lv_room (Nat.le_of_ble_eq_true rfl)) d_Go_findServed_56 ⟨Nat.zero_le _, Nat.zero_le _⟩) hD hS hA (fun H locs hP hD hS => ?_)
          refine lv_istore (lv' := [(4, .int r9), (0, .ref (ad 3)), (1, .int x1), (2, .int x2), (3, .int x3), (5, .int x5)]) hx hb d_Go_findServed_59 hl (by decide) rfl (fun ls hl => ?_)
          refine lv_iconst (v := 0) hx hb d_Go_findServed_61 (by decide) ?_
          refine lv_istore (lv' := [(5, .int 0), (4, .int r9), (0, .ref (ad 3)), (1, .int x1), (2, .int x2), (3, .int x3)]) hx hb d_Go_findServed_62 hl (by decide) rfl (fun ls hl => ?_)
          exact ih.2.2.1 hP hD hS (lv_sub hl [2, 3, 4, 5, 1, 0] rfl) (tq_gi hg hn)
        · replace hg := tq_if_f c7 hg
          refine lv_aload_n hx hb d_Go_findServed_30 rfl (lv_at hl 0 rfl) ?_
          refine va_get (D := (dC, dI)) (ci := 3) (v := .ref (ad 22)) (C := "TableauNodes$GoodTypes") (T := F_Go) (N := 15) hx hb hts in_Go hown hK hP 3 rfl rfl 10 (by decide) (hts _ tw_127) (fun _ h9 => h9) rfl d_Go_findServed_31 ?_
          refine lv_iload hx hb d_Go_findServed_34 (lv_at hl 5 rfl) ?_
          refine lv_iconst (v := 0) hx hb d_Go_findServed_36 (by decide) ?_
          obtain ⟨g11, hg⟩ := tq_gd_s hg
          refine va_iast hx hb hK hP hD hS 22 0 rfl rfl g11 d_Go_findServed_37 (fun H locs hP hD hS => ?_)
          obtain ⟨σ12, eσ12, hg⟩ := tq_lj_s hg
          replace hP : va_P (dC, dI) tq_cl (wo cI cL cZ ad σ12) H := by rw [eσ12, ← ws_i12]; exact hP
          replace hD : va_D A (wo cI cL cZ ad σ12) := by rw [eσ12, ← ws_i12]; exact hD
          obtain ⟨v13, ev13, hg⟩ := tq_lj_s hg
          refine lv_iinc (v := v13) (lv' := [(4, .int v13), (0, .ref (ad 3)), (1, .int x1), (2, .int x2), (3, .int x3), (5, .int x5)]) hx hb d_Go_findServed_38 hl (k := 4) rfl (by rw [ev13]; rfl) (by decide) rfl (fun ls hl => ?_)
          refine lv_iload hx hb d_Go_findServed_41 (lv_at hl 5 rfl) ?_
          refine lv_iload_n hx hb d_Go_findServed_43 rfl (lv_at hl 3 rfl) ?_
          refine lv_isub hx hb d_Go_findServed_44 ?_
          refine lv_iload_n hx hb d_Go_findServed_45 rfl (lv_at hl 3 rfl) ?_
          refine lv_iand hx hb d_Go_findServed_46 ?_
          obtain ⟨v14, ev14, hg⟩ := tq_lj_s hg
          refine tq_nmi ev14 ?_
          refine lv_istore (lv' := [(5, .int v14), (4, .int v13), (0, .ref (ad 3)), (1, .int x1), (2, .int x2), (3, .int x3)]) hx hb d_Go_findServed_47 hl (by decide) rfl (fun ls hl => ?_)
          refine lv_goto (tgt := 24) hx hb d_Go_findServed_49 (by decide) ?_
          exact ih.2.1 hP hD hS (lv_sub hl [2, 3, 4, 5, 1, 0] rfl) (tq_gi hg hn)
      · intro x1 x2 x3 x4 x5 σ H locs ls hP hD hS hl h9
        obtain ⟨q9, hg, hn⟩ := tq_go_s h9 (show ¬ (64 : Nat) = tq_rt by decide)
        replace hg : bk_Go_findServed_64 [x1, x2, x3, x4, x5] [] σ = some q9 := hg
        unfold bk_Go_findServed_64 at hg
        refine lv_iload hx hb d_Go_findServed_64 (lv_at hl 5 rfl) ?_
        refine lv_iload hx hb d_Go_findServed_66 (lv_at hl 4 rfl) ?_
        refine lv_icmp_ge (tgt := 126) hx hb d_Go_findServed_68 (by decide) (fun c15 => ?_) (fun c15 => ?_)
        · replace hg := tq_if_t c15 hg
          refine lv_iconst (v := 0) hx hb d_Go_findServed_126 (by decide) ?_
          refine lv_istore (lv' := [(5, .int 0), (0, .ref (ad 3)), (1, .int x1), (2, .int x2), (3, .int x3), (4, .int x4)]) hx hb d_Go_findServed_127 hl (by decide) rfl (fun ls hl => ?_)
          exact ih.2.2.2 hP hD hS (lv_sub hl [1, 3, 4, 0] rfl) (tq_gi hg hn)
        · replace hg := tq_if_f c15 hg
          refine lv_iload hx hb d_Go_findServed_71 (lv_at hl 5 rfl) ?_
          refine lv_sipush (v := 1024) hx hb d_Go_findServed_73 (by decide) ?_
          refine lv_icmp_ge (tgt := 126) hx hb d_Go_findServed_76 (by decide) (fun c16 => ?_) (fun c16 => ?_)
          · replace hg := tq_if_t c16 hg
            refine lv_iconst (v := 0) hx hb d_Go_findServed_126 (by decide) ?_
            refine lv_istore (lv' := [(5, .int 0), (0, .ref (ad 3)), (1, .int x1), (2, .int x2), (3, .int x3), (4, .int x4)]) hx hb d_Go_findServed_127 hl (by decide) rfl (fun ls hl => ?_)
            exact ih.2.2.2 hP hD hS (lv_sub hl [1, 3, 4, 0] rfl) (tq_gi hg hn)
          · replace hg := tq_if_f c16 hg
            refine lv_aload_n hx hb d_Go_findServed_79 rfl (lv_at hl 0 rfl) ?_
            refine lv_iload hx hb d_Go_findServed_80 (lv_at hl 5 rfl) ?_
            obtain ⟨r18, σ19, f17, hg⟩ := tq_ob_s hg
            refine tq_aI (va_runV (As := [.int x5]) (rest := []) ⟨hx, hb, hml, hown, hts⟩ (c_Go_isThere l dC dI cI cL cZ ad tt H.size σ x5  r18 σ19 f17) (cwV 1 hts (tq_gV tw_357 tw_359 ts_10 tw_4 tw_360) rfl rfl rfl (by decide +kernel) ⟨Nat.le_of_ble_eq_true rfl, Nat.le_of_ble_eq_true rfl⟩) ⟨tq_bl, va_recv hK hP (ci := 3) (q0 := 3) rfl rfl, (tq_pr hP hK hD hS hA hZ hN)⟩ rfl rfl hl.1 rfl (lv_room (Nat.le_of_ble_eq_true rfl)) d_Go_findServed_82 ⟨Nat.zero_le _, Nat.zero_le _⟩) hD hS hA (fun H locs hP hD hS => ?_)
            refine lv_if_eq (tgt := 120) hx hb d_Go_findServed_85 (by decide) (fun c20 => ?_) (fun c20 => ?_)
            · replace hg := tq_if_t c20 hg
              obtain ⟨v21, ev21, hg⟩ := tq_lj_s hg
              refine lv_iinc (v := v21) (lv' := [(5, .int v21), (0, .ref (ad 3)), (1, .int x1), (2, .int x2), (3, .int x3), (4, .int x4)]) hx hb d_Go_findServed_120 hl (k := 5) rfl (by rw [ev21]; rfl) (by decide) rfl (fun ls hl => ?_)
              refine lv_goto (tgt := 64) hx hb d_Go_findServed_123 (by decide) ?_
              exact ih.2.2.1 hP hD hS (lv_sub hl [1, 2, 3, 4, 5, 0] rfl) (tq_gi hg hn)
            · replace hg := tq_if_f c20 hg
              refine lv_aload_n hx hb d_Go_findServed_88 rfl (lv_at hl 0 rfl) ?_
              refine va_get (D := (dC, dI)) (ci := 3) (v := .ref (ad 1)) (C := "TableauNodes$GoodTypes") (T := F_Go) (N := 15) hx hb hts in_Go hown hK hP 3 rfl rfl 0 (by decide) (hts _ tw_117) (fun _ h9 => h9) rfl d_Go_findServed_89 ?_
              refine lv_iload hx hb d_Go_findServed_92 (lv_at hl 5 rfl) ?_
              obtain ⟨r23, σ24, f22, hg⟩ := tq_ob_s hg
              refine tq_aI (va_runV (As := [.int x5]) (rest := []) ⟨hx, hb, hml, hown, hts⟩ (c_Co_inners l dC dI cI cL cZ ad tt H.size σ19 x5  r23 σ24 f22) (cwV 1 hts (tq_gV tw_380 tw_381 tw_382 tw_2 tw_383) rfl rfl rfl (by decide +kernel) ⟨Nat.le_of_ble_eq_true rfl, Nat.le_of_ble_eq_true rfl⟩) ⟨tq_bl, va_recv hK hP (ci := 1) (q0 := 1) rfl rfl, (tq_pr hP hK hD hS hA hZ hN)⟩ rfl rfl hl.1 rfl (lv_room (Nat.le_of_ble_eq_true rfl)) d_Go_findServed_94 ⟨Nat.zero_le _, Nat.zero_le _⟩) hD hS hA (fun H locs hP hD hS => ?_)
              refine lv_istore (lv' := [(6, .int r23), (0, .ref (ad 3)), (1, .int x1), (2, .int x2), (3, .int x3), (4, .int x4), (5, .int x5)]) hx hb d_Go_findServed_97 hl (by decide) rfl (fun ls hl => ?_)
              refine lv_aload_n hx hb d_Go_findServed_99 rfl (lv_at hl 1 rfl) ?_
              refine va_get (D := (dC, dI)) (ci := 3) (v := .ref (ad 22)) (C := "TableauNodes$GoodTypes") (T := F_Go) (N := 15) hx hb hts in_Go hown hK hP 3 rfl rfl 10 (by decide) (hts _ tw_127) (fun _ h9 => h9) rfl d_Go_findServed_100 ?_
              refine lv_iload hx hb d_Go_findServed_103 (lv_at hl 0 rfl) ?_
              refine lv_iload_n hx hb d_Go_findServed_105 rfl (lv_at hl 3 rfl) ?_
              refine lv_iand hx hb d_Go_findServed_106 ?_
              refine lv_dup2_11 hx hb d_Go_findServed_107 rfl rfl ?_
              obtain ⟨g25, hg⟩ := tq_gd_s hg
              refine va_iald hx hb hK hP 22 0 rfl rfl g25 d_Go_findServed_108 ?_
              refine lv_iload hx hb d_Go_findServed_109 (lv_at hl 0 rfl) ?_
              refine lv_aload_n hx hb d_Go_findServed_111 rfl (lv_at hl 1 rfl) ?_
              refine va_get (D := (dC, dI)) (ci := 3) (v := .ref (ad 17)) (C := "TableauNodes$GoodTypes") (T := F_Go) (N := 15) hx hb hts in_Go hown hK hP 3 rfl rfl 5 (by decide) (hts _ tw_122) (fun _ h9 => h9) rfl d_Go_findServed_112 ?_
              refine lv_iload_n hx hb d_Go_findServed_115 rfl (lv_at hl 2 rfl) ?_
              obtain ⟨g26, hg⟩ := tq_gd_s hg
              refine va_iald hx hb hK hP 17 0 rfl rfl g26 d_Go_findServed_116 ?_
              refine lv_iand hx hb d_Go_findServed_117 ?_
              refine lv_ior hx hb d_Go_findServed_118 ?_
              obtain ⟨g27, hg⟩ := tq_gd_s hg
              refine va_iast hx hb hK hP hD hS 22 0 rfl rfl g27 d_Go_findServed_119 (fun H locs hP hD hS => ?_)
              obtain ⟨σ28, eσ28, hg⟩ := tq_lj_s hg
              replace hP : va_P (dC, dI) tq_cl (wo cI cL cZ ad σ28) H := by rw [eσ28, ← ws_i12]; exact hP
              replace hD : va_D A (wo cI cL cZ ad σ28) := by rw [eσ28, ← ws_i12]; exact hD
              obtain ⟨v29, ev29, hg⟩ := tq_lj_s hg
              refine lv_iinc (v := v29) (lv' := [(5, .int v29), (6, .int r23), (0, .ref (ad 3)), (1, .int x1), (2, .int x2), (3, .int x3), (4, .int x4)]) hx hb d_Go_findServed_120 hl (k := 6) rfl (by rw [ev29]; rfl) (by decide) rfl (fun ls hl => ?_)
              refine lv_goto (tgt := 64) hx hb d_Go_findServed_123 (by decide) ?_
              exact ih.2.2.1 hP hD hS (lv_sub hl [2, 3, 4, 5, 6, 0] rfl) (tq_gi hg hn)
      · intro x2 x3 x5 σ H locs ls hP hD hS hl h9
        obtain ⟨q9, hg, hn⟩ := tq_go_s h9 (show ¬ (129 : Nat) = tq_rt by decide)
        replace hg : bk_Go_findServed_129 [x2, x3, x5] [] σ = some q9 := hg
        unfold bk_Go_findServed_129 at hg
        refine lv_iload hx hb d_Go_findServed_129 (lv_at hl 3 rfl) ?_
        refine lv_bipush (v := 10) hx hb d_Go_findServed_131 (by decide) ?_
        refine lv_icmp_ge (tgt := 162) hx hb d_Go_findServed_133 (by decide) (fun c30 => ?_) (fun c30 => ?_)
        · replace hg := tq_if_t c30 hg
          exact W.vret hx hb hr (fun t ht hW => ⟨⟨σ, rfl, tq_grV hg hn, by rw [ht]; exact hP, va_K.moved hW.alike hK, hD⟩, hS.F ht⟩) hS.2.2 d_Go_findServed_162
        · replace hg := tq_if_f c30 hg
          refine lv_iload_n hx hb d_Go_findServed_136 rfl (lv_at hl 1 rfl) ?_
          refine lv_i2l hx hb d_Go_findServed_137 rfl ?_
          refine lv_iload hx hb d_Go_findServed_138 (lv_at hl 3 rfl) ?_
          obtain ⟨r32, σ33, f31, hg⟩ := tq_ob_s hg
          refine tq_aI (va_runSN (As := [.long x2.toInt64, .int x5]) (rest := []) ⟨hx, hb, hml, hown, hts⟩ (c_Tn_hasBit l dC dI cI cL cZ ad tt H.size σ x5 x2.toInt64 r32 σ33 f31) ⟨va_cnB 2 hts (tq_gC tw_62) rfl rfl rfl (hN _ (List.mem_of_getElem? (i := 4) rfl)) (hts _ tw_1) (by decide +kernel) ⟨Nat.le_of_ble_eq_true rfl, Nat.le_of_ble_eq_true rfl⟩, hts _ tw_61, trivial⟩ ⟨tq_bl, (tq_pr hP hK hD hS hA hZ hN)⟩ rfl rfl hl.1 rfl (lv_room (Nat.le_of_ble_eq_true rfl)) d_Go_findServed_140 ⟨Nat.zero_le _, Nat.zero_le _⟩) hD hS hA (fun H locs hP hD hS => ?_)
          refine lv_if_eq (tgt := 156) hx hb d_Go_findServed_143 (by decide) (fun c34 => ?_) (fun c34 => ?_)
          · replace hg := tq_if_t c34 hg
            obtain ⟨v35, ev35, hg⟩ := tq_lj_s hg
            refine lv_iinc (v := v35) (lv' := [(5, .int v35), (0, .ref (ad 3)), (2, .int x2), (3, .int x3)]) hx hb d_Go_findServed_156 hl (k := 3) rfl (by rw [ev35]; rfl) (by decide) rfl (fun ls hl => ?_)
            refine lv_goto (tgt := 129) hx hb d_Go_findServed_159 (by decide) ?_
            exact ih.2.2.2 hP hD hS (lv_sub hl [1, 2, 3, 0] rfl) (tq_gi hg hn)
          · replace hg := tq_if_f c34 hg
            refine lv_aload_n hx hb d_Go_findServed_146 rfl (lv_at hl 0 rfl) ?_
            refine lv_iload_n hx hb d_Go_findServed_147 rfl (lv_at hl 1 rfl) ?_
            refine lv_iload_n hx hb d_Go_findServed_148 rfl (lv_at hl 2 rfl) ?_
            refine lv_iconst (v := 1) hx hb d_Go_findServed_149 (by decide) ?_
            refine lv_iload hx hb d_Go_findServed_150 (lv_at hl 3 rfl) ?_
            refine lv_ishl hx hb d_Go_findServed_152 ?_
            obtain ⟨⟨⟩, σ38, f36, hg⟩ := tq_ob_s hg
            refine tq_aV (va_runV (As := [.int x2, .int x3, .int (1 <<< (x5 &&& 31))]) (rest := []) ⟨hx, hb, hml, hown, hts⟩ (c_Go_spreadServed l dC dI cI cL cZ ad tt H.size σ33 x2 x3 (1 <<< (x5 &&& 31))   σ38 f36) (cwV 3 hts (tq_gV tw_384 tw_386 ts_14 tw_4 tw_387) rfl rfl rfl (by decide +kernel) ⟨Nat.le_of_ble_eq_true rfl, Nat.le_of_ble_eq_true rfl⟩) ⟨tq_bl, va_recv hK hP (ci := 3) (q0 := 3) rfl rfl, (tq_pr hP hK hD hS hA hZ hN)⟩ rfl rfl hl.1 rfl (lv_room (Nat.le_of_ble_eq_true rfl)) d_Go_findServed_153 ⟨Nat.zero_le _, Nat.zero_le _⟩) hD hS hA (fun H locs hP hD hS => ?_)
            obtain ⟨v39, ev39, hg⟩ := tq_lj_s hg
            refine lv_iinc (v := v39) (lv' := [(5, .int v39), (0, .ref (ad 3)), (2, .int x2), (3, .int x3)]) hx hb d_Go_findServed_156 hl (k := 3) rfl (by rw [ev39]; rfl) (by decide) rfl (fun ls hl => ?_)
            refine lv_goto (tgt := 129) hx hb d_Go_findServed_159 (by decide) ?_
            exact ih.2.2.2 hP hD hS (lv_sub hl [1, 2, 3, 0] rfl) (tq_gi hg hn)
  exact (key n0).1 hP hD hS hl h0
noncomputable def bk_Go_markUnserved_0 : List Int32 → List Int64 → tq_S → Option tq_C
  | [x1], [], σ => tq_ob (tq_fV st_Go_findServed (0, [x1], [], σ)) (fun _ σ3 => tq_ob (tq_fI st_Co_typeCount (0, [], [], σ3)) (fun r5 σ6 => some (15, [x1, r5, 0], [], σ6)))
  | _, _, _ => none
noncomputable def bk_Go_markUnserved_15 : List Int32 → List Int64 → tq_S → Option tq_C
  | [x1, x2, x3], [], σ => if x2 ≤ x3 then some (tq_rt, [], [], σ) else if 1024 ≤ x3 then some (tq_rt, [], [], σ) else tq_ob (tq_fI st_Go_isThere (0, [x3], [], σ)) (fun r10 σ11 => if r10 = 0 then tq_lj (x3 + 1) (fun v13 => some (15, [x1, x2, v13], [], σ11)) else tq_gd x1 4 (tq_gd x1 4 (tq_gd (x3 &&& (ia σ11 10 x1)) 1024 (if ((x3 &&& (ia σ11 9 x1)) &&& ((ia σ11 12 (x3 &&& (ia σ11 10 x1))) ^^^ (-1))) = 0 then tq_lj (x3 + 1) (fun v18 => some (15, [x1, x2, v18], [], σ11)) else tq_gd (x3 / 64) 16 (tq_gd (x3 / 64) 16 (tq_lj (lput σ11 3 (x3 / 64).toNatClampNeg ((la σ11 3 (x3 / 64)) ||| (jlshl 1 (jrem x3 64)))) (fun σ23 => tq_lj (x3 + 1) (fun v24 => some (15, [x1, x2, v24], [], σ23)))))))))
  | _, _, _ => none
noncomputable def st_Go_markUnserved (c : tq_C) : Option tq_C := if c.1 = 0 then bk_Go_markUnserved_0 c.2.1 c.2.2.1 c.2.2.2 else if c.1 = 15 then bk_Go_markUnserved_15 c.2.1 c.2.2.1 c.2.2.2 else none
set_option maxHeartbeats 40000000 in
set_option maxRecDepth 100000 in
theorem c_Go_markUnserved (l : Launch) (dC : Nat → ClassId) (dI : Nat → Nat → Nat) (cI cL cZ : ClassId) (ad : Nat → Nat) (tt : Nat) (sz : Nat) (σ : tq_S) (a1 : Int32) (σ' : tq_S) (hf : tq_fV st_Go_markUnserved (0, [a1], [], σ) = some ((), σ')) : Met l y_Go_markUnserved w_Go_markUnserved ({ frames := 3, cells := 0, slots := 0, locals := 69 } : Room) (va_Pc [.ref (ad 3), .int a1] (tq_B dC dI cI cL cZ tt (wo cI cL cZ ad σ) sz)) (va_Qv (fun (u : tq_S) => u = σ') (tq_E dC dI cI cL cZ (wo cI cL cZ ad) (va_A (wo cI cL cZ ad σ) sz)) (va_A (wo cI cL cZ ad σ) sz)) 0 0 (va_A (wo cI cL cZ ad σ) sz) := by
  obtain ⟨n0, h0⟩ := tq_fV_to hf
  refine Met.ofW (cc := prog_3_method_20_code) (maxL := 4) (ret := none) (by decide) rfl ?_
  intro p e s m args below meth c s₁ B hml hv
  obtain ⟨rfl, hsz, hP, hK, hD0, hZ, hN⟩ := hv
  have hx := B.exec
  have hb := B.bytes
  have hr := B.returns
  have hts : ∀ w ∈ tq_T, w.before _ s = true := fun w h => atoms_spec (ws := w_Go_markUnserved) B.pre w (List.mem_cons_of_mem _ h)
  have hown : s.vm.findClass "TableauNodes$GoodTypes" = some m.cls := findClass_of_methodNamed B.named
  have hlocks := B.notSynchronized
  subst hsz
  have hD := hD0.self (sz := s.heap.size)
  have hS : va_S (va_A (wo cI cL cZ ad σ) s.heap.size) s.heap s.heap [] := va_S.rf
  have hA : ∀ q : Nat, s.heap.size ≤ q → va_A (wo cI cL cZ ad σ) s.heap.size q := fun q h => Or.inr h
  generalize va_A (wo cI cL cZ ad σ) s.heap.size = A at hD hS hA hZ ⊢
  have hl := lv_entry ([.ref (ad 3), .int a1]) (n := 4) (Nat.le_of_ble_eq_true rfl)
  rw [lg_entry_eq]
  generalize (lg_sl ([.ref (ad 3), .int a1]) ++ List.replicate (4 - (lg_sl ([.ref (ad 3), .int a1])).length) Slot.unset).toArray = ls at hl ⊢
  have hl : lv_has ls 4 [(0, .ref (ad 3)), (1, .int a1)] := hl
  have key : ∀ n : Nat, (∀ {x1 : Int32} {σ : tq_S} {H : Heap} {locs : List Loc} {ls : Array Slot}, va_P (dC, dI) tq_cl (wo cI cL cZ ad σ) H → va_D A (wo cI cL cZ ad σ) → va_S A s.heap H locs → lv_has ls 4 [(0, .ref (ad 3)), (1, .int x1)] → tq_go st_Go_markUnserved n (0, [x1], [], σ) = some (tq_rt, [], [], σ') → W p l e (headSpec w_Go_markUnserved ({ frames := 3, cells := 0, slots := 0, locals := 69 } : Room)).room s m ([.ref (ad 3), .int a1] : List Value).toArray below meth c H locs 0 0 (MQ below (va_Qv (fun (u : tq_S) => u = σ') (tq_E dC dI cI cL cZ (wo cI cL cZ ad) A) A) ([.ref (ad 3), .int a1] : List Value).toArray s 0 0 A) (F0 m 0 ls [])) ∧ (∀ {x1 x2 x3 : Int32} {σ : tq_S} {H : Heap} {locs : List Loc} {ls : Array Slot}, va_P (dC, dI) tq_cl (wo cI cL cZ ad σ) H → va_D A (wo cI cL cZ ad σ) → va_S A s.heap H locs → lv_has ls 4 [(0, .ref (ad 3)), (1, .int x1), (2, .int x2), (3, .int x3)] → tq_go st_Go_markUnserved n (15, [x1, x2, x3], [], σ) = some (tq_rt, [], [], σ') → W p l e (headSpec w_Go_markUnserved ({ frames := 3, cells := 0, slots := 0, locals := 69 } : Room)).room s m ([.ref (ad 3), .int a1] : List Value).toArray below meth c H locs 0 0 (MQ below (va_Qv (fun (u : tq_S) => u = σ') (tq_E dC dI cI cL cZ (wo cI cL cZ ad) A) A) ([.ref (ad 3), .int a1] : List Value).toArray s 0 0 A) (F0 m 15 ls [])) := by
    intro n
    induction n with
    | zero => exact ⟨(fun _ _ _ _ h => by cases h), (fun _ _ _ _ h => by cases h)⟩
    | succ n ih =>
      refine ⟨?_, ?_⟩
      · intro x1 σ H locs ls hP hD hS hl h9
        obtain ⟨q9, hg, hn⟩ := tq_go_s h9 (show ¬ (0 : Nat) = tq_rt by decide)
        replace hg : bk_Go_markUnserved_0 [x1] [] σ = some q9 := hg
        unfold bk_Go_markUnserved_0 at hg
        refine lv_aload_n hx hb d_Go_markUnserved_0 rfl (lv_at hl 0 rfl) ?_
        refine lv_iload_n hx hb d_Go_markUnserved_1 rfl (lv_at hl 1 rfl) ?_
        obtain ⟨⟨⟩, σ3, f1, hg⟩ := tq_ob_s hg
        refine tq_aV (va_runV (As := [.int x1]) (rest := []) ⟨hx, hb, hml, hown, hts⟩ (c_Go_findServed l dC dI cI cL cZ ad tt H.size σ x1   σ3 f1) (cwV 1 hts (tq_gV tw_370 tw_372 ts_13 tw_4 tw_373) rfl rfl rfl (by decide +kernel) ⟨Nat.le_of_ble_eq_true rfl, Nat.le_of_ble_eq_true rfl⟩) ⟨tq_bl, va_recv hK hP (ci := 3) (q0 := 3) rfl rfl, (tq_pr hP hK hD hS hA hZ hN)⟩ rfl rfl hl.1 rfl (lv_room (Nat.le_of_ble_eq_true rfl)) d_Go_markUnserved_2 ⟨Nat.zero_le _, Nat.zero_le _⟩) hD hS hA (fun H locs hP hD hS => ?_)
        refine lv_aload_n hx hb d_Go_markUnserved_5 rfl (lv_at hl 0 rfl) ?_
        refine va_get (D := (dC, dI)) (ci := 3) (v := .ref (ad 1)) (C := "TableauNodes$GoodTypes") (T := F_Go) (N := 15) hx hb hts in_Go hown hK hP 3 rfl rfl 0 (by decide) (hts _ tw_117) (fun _ h9 => h9) rfl d_Go_markUnserved_6 ?_
        obtain ⟨r5, σ6, f4, hg⟩ := tq_ob_s hg
        refine tq_aI (va_runV (As := []) (rest := []) ⟨hx, hb, hml, hown, hts⟩ (c_Co_typeCount l dC dI cI cL cZ ad tt H.size σ3   r5 σ6 f4) (cwV 0 hts (tq_gV tw_356 tw_343 tw_344 tw_2 tw_345) rfl rfl rfl (by decide +kernel) ⟨Nat.le_of_ble_eq_true rfl, Nat.le_of_ble_eq_true rfl⟩) ⟨tq_bl, va_recv hK hP (ci := 1) (q0 := 1) rfl rfl, (tq_pr hP hK hD hS hA hZ hN)⟩ rfl rfl hl.1 rfl (lv_room (Nat.le_of_ble_eq_true rfl)) d_Go_markUnserved_9 ⟨Nat.zero_le _, Nat.zero_le _⟩) hD hS hA (fun H locs hP hD hS => ?_)
        refine lv_istore_n (lv' := [(2, .int r5), (0, .ref (ad 3)), (1, .int x1)]) hx hb d_Go_markUnserved_12 rfl hl (by decide) rfl (fun ls hl => ?_)
        refine lv_iconst (v := 0) hx hb d_Go_markUnserved_13 (by decide) ?_
        refine lv_istore_n (lv' := [(3, .int 0), (2, .int r5), (0, .ref (ad 3)), (1, .int x1)]) hx hb d_Go_markUnserved_14 rfl hl (by decide) rfl (fun ls hl => ?_)
        exact ih.2 hP hD hS (lv_sub hl [2, 3, 1, 0] rfl) (tq_gi hg hn)
      · intro x1 x2 x3 σ H locs ls hP hD hS hl h9
        obtain ⟨q9, hg, hn⟩ := tq_go_s h9 (show ¬ (15 : Nat) = tq_rt by decide)
        replace hg : bk_Go_markUnserved_15 [x1, x2, x3] [] σ = some q9 := hg
        unfold bk_Go_markUnserved_15 at hg
        refine lv_iload_n hx hb d_Go_markUnserved_15 rfl (lv_at hl 3 rfl) ?_
        refine lv_iload_n hx hb d_Go_markUnserved_16 rfl (lv_at hl 2 rfl) ?_
        refine lv_icmp_ge (tgt := 86) hx hb d_Go_markUnserved_17 (by decide) (fun c7 => ?_) (fun c7 => ?_)
        · replace hg := tq_if_t c7 hg
          exact W.vret hx hb hr (fun t ht hW => ⟨⟨σ, rfl, tq_grV hg hn, by rw [ht]; exact hP, va_K.moved hW.alike hK, hD⟩, hS.F ht⟩) hS.2.2 d_Go_markUnserved_86
        · replace hg := tq_if_f c7 hg
          refine lv_iload_n hx hb d_Go_markUnserved_20 rfl (lv_at hl 3 rfl) ?_
          refine lv_sipush (v := 1024) hx hb d_Go_markUnserved_21 (by decide) ?_
          refine lv_icmp_ge (tgt := 86) hx hb d_Go_markUnserved_24 (by decide) (fun c8 => ?_) (fun c8 => ?_)
          · replace hg := tq_if_t c8 hg
            exact W.vret hx hb hr (fun t ht hW => ⟨⟨σ, rfl, tq_grV hg hn, by rw [ht]; exact hP, va_K.moved hW.alike hK, hD⟩, hS.F ht⟩) hS.2.2 d_Go_markUnserved_86
          · replace hg := tq_if_f c8 hg
            refine lv_aload_n hx hb d_Go_markUnserved_27 rfl (lv_at hl 0 rfl) ?_
            refine lv_iload_n hx hb d_Go_markUnserved_28 rfl (lv_at hl 3 rfl) ?_
            obtain ⟨r10, σ11, f9, hg⟩ := tq_ob_s hg
            refine tq_aI (va_runV (As := [.int x3]) (rest := []) ⟨hx, hb, hml, hown, hts⟩ (c_Go_isThere l dC dI cI cL cZ ad tt H.size σ x3  r10 σ11 f9) (cwV 1 hts (tq_gV tw_357 tw_359 ts_10 tw_4 tw_360) rfl rfl rfl (by decide +kernel) ⟨Nat.le_of_ble_eq_true rfl, Nat.le_of_ble_eq_true rfl⟩) ⟨tq_bl, va_recv hK hP (ci := 3) (q0 := 3) rfl rfl, (tq_pr hP hK hD hS hA hZ hN)⟩ rfl rfl hl.1 rfl (lv_room (Nat.le_of_ble_eq_true rfl)) d_Go_markUnserved_29 ⟨Nat.zero_le _, Nat.zero_le _⟩) hD hS hA (fun H locs hP hD hS => ?_)
            refine lv_if_eq (tgt := 80) hx hb d_Go_markUnserved_32 (by decide) (fun c12 => ?_) (fun c12 => ?_)
            · replace hg := tq_if_t c12 hg
              obtain ⟨v13, ev13, hg⟩ := tq_lj_s hg
              refine lv_iinc (v := v13) (lv' := [(3, .int v13), (0, .ref (ad 3)), (1, .int x1), (2, .int x2)]) hx hb d_Go_markUnserved_80 hl (k := 3) rfl (by rw [ev13]; rfl) (by decide) rfl (fun ls hl => ?_)
              refine lv_goto (tgt := 15) hx hb d_Go_markUnserved_83 (by decide) ?_
              exact ih.2 hP hD hS (lv_sub hl [1, 2, 3, 0] rfl) (tq_gi hg hn)
            · replace hg := tq_if_f c12 hg
              refine lv_iload_n hx hb d_Go_markUnserved_35 rfl (lv_at hl 3 rfl) ?_
              refine lv_aload_n hx hb d_Go_markUnserved_36 rfl (lv_at hl 0 rfl) ?_
              refine va_get (D := (dC, dI)) (ci := 3) (v := .ref (ad 17)) (C := "TableauNodes$GoodTypes") (T := F_Go) (N := 15) hx hb hts in_Go hown hK hP 3 rfl rfl 5 (by decide) (hts _ tw_122) (fun _ h9 => h9) rfl d_Go_markUnserved_37 ?_
              refine lv_iload_n hx hb d_Go_markUnserved_40 rfl (lv_at hl 1 rfl) ?_
              obtain ⟨g14, hg⟩ := tq_gd_s hg
              refine va_iald hx hb hK hP 17 0 rfl rfl g14 d_Go_markUnserved_41 ?_
              refine lv_iand hx hb d_Go_markUnserved_42 ?_
              refine lv_aload_n hx hb d_Go_markUnserved_43 rfl (lv_at hl 0 rfl) ?_
              refine va_get (D := (dC, dI)) (ci := 3) (v := .ref (ad 22)) (C := "TableauNodes$GoodTypes") (T := F_Go) (N := 15) hx hb hts in_Go hown hK hP 3 rfl rfl 10 (by decide) (hts _ tw_127) (fun _ h9 => h9) rfl d_Go_markUnserved_44 ?_
              refine lv_iload_n hx hb d_Go_markUnserved_47 rfl (lv_at hl 3 rfl) ?_
              refine lv_aload_n hx hb d_Go_markUnserved_48 rfl (lv_at hl 0 rfl) ?_
              refine va_get (D := (dC, dI)) (ci := 3) (v := .ref (ad 18)) (C := "TableauNodes$GoodTypes") (T := F_Go) (N := 15) hx hb hts in_Go hown hK hP 3 rfl rfl 6 (by decide) (hts _ tw_123) (fun _ h9 => h9) rfl d_Go_markUnserved_49 ?_
              refine lv_iload_n hx hb d_Go_markUnserved_52 rfl (lv_at hl 1 rfl) ?_
              obtain ⟨g15, hg⟩ := tq_gd_s hg
              refine va_iald hx hb hK hP 18 0 rfl rfl g15 d_Go_markUnserved_53 ?_
              refine lv_iand hx hb d_Go_markUnserved_54 ?_
              obtain ⟨g16, hg⟩ := tq_gd_s hg
              refine va_iald hx hb hK hP 22 0 rfl rfl g16 d_Go_markUnserved_55 ?_
              refine lv_iconst (v := (-1)) hx hb d_Go_markUnserved_56 (by decide) ?_
              refine lv_ixor hx hb d_Go_markUnserved_57 ?_
              refine lv_iand hx hb d_Go_markUnserved_58 ?_
              refine lv_if_eq (tgt := 80) hx hb d_Go_markUnserved_59 (by decide) (fun c17 => ?_) (fun c17 => ?_)
              · replace hg := tq_if_t c17 hg
                obtain ⟨v18, ev18, hg⟩ := tq_lj_s hg
                refine lv_iinc (v := v18) (lv' := [(3, .int v18), (0, .ref (ad 3)), (1, .int x1), (2, .int x2)]) hx hb d_Go_markUnserved_80 hl (k := 3) rfl (by rw [ev18]; rfl) (by decide) rfl (fun ls hl => ?_)
                refine lv_goto (tgt := 15) hx hb d_Go_markUnserved_83 (by decide) ?_
                exact ih.2 hP hD hS (lv_sub hl [1, 2, 3, 0] rfl) (tq_gi hg hn)
              · replace hg := tq_if_f c17 hg
                refine lv_aload_n hx hb d_Go_markUnserved_62 rfl (lv_at hl 0 rfl) ?_
                refine va_get (D := (dC, dI)) (ci := 3) (v := .ref (ad 20)) (C := "TableauNodes$GoodTypes") (T := F_Go) (N := 15) hx hb hts in_Go hown hK hP 3 rfl rfl 8 (by decide) (hts _ tw_125) (fun _ h9 => h9) rfl d_Go_markUnserved_63 ?_
                refine lv_iload_n hx hb d_Go_markUnserved_66 rfl (lv_at hl 3 rfl) ?_
                refine lv_bipush (v := 64) hx hb d_Go_markUnserved_67 (by decide) ?_
                refine lv_idiv hx hb d_Go_markUnserved_69 (by decide) ?_
                refine lv_dup2_11 hx hb d_Go_markUnserved_70 rfl rfl ?_
                obtain ⟨g20, hg⟩ := tq_gd_s hg
                refine va_lald hx hb hK hP 20 1 rfl rfl g20 d_Go_markUnserved_71 ?_
                refine lv_lconst (v := 1) hx hb d_Go_markUnserved_72 (by decide) ?_
                refine lv_iload_n hx hb d_Go_markUnserved_73 rfl (lv_at hl 3 rfl) ?_
                refine lv_bipush (v := 64) hx hb d_Go_markUnserved_74 (by decide) ?_
                refine lv_irem hx hb d_Go_markUnserved_76 (by decide) ?_
                refine lv_lshl hx hb d_Go_markUnserved_77 rfl ?_
                refine lv_lor hx hb d_Go_markUnserved_78 ?_
                obtain ⟨g22, hg⟩ := tq_gd_s hg
                refine va_last hx hb hK hP hD hS 20 1 rfl rfl g22 d_Go_markUnserved_79 (fun H locs hP hD hS => ?_)
                obtain ⟨σ23, eσ23, hg⟩ := tq_lj_s hg
                replace hP : va_P (dC, dI) tq_cl (wo cI cL cZ ad σ23) H := by rw [eσ23, ← ws_l3]; exact hP
                replace hD : va_D A (wo cI cL cZ ad σ23) := by rw [eσ23, ← ws_l3]; exact hD
                obtain ⟨v24, ev24, hg⟩ := tq_lj_s hg
                refine lv_iinc (v := v24) (lv' := [(3, .int v24), (0, .ref (ad 3)), (1, .int x1), (2, .int x2)]) hx hb d_Go_markUnserved_80 hl (k := 3) rfl (by rw [ev24]; rfl) (by decide) rfl (fun ls hl => ?_)
                refine lv_goto (tgt := 15) hx hb d_Go_markUnserved_83 (by decide) ?_
                exact ih.2 hP hD hS (lv_sub hl [1, 2, 3, 0] rfl) (tq_gi hg hn)
  exact (key n0).1 hP hD hS hl h0
noncomputable def bk_Go_takeAway_0 : List Int32 → List Int64 → tq_S → Option tq_C
  | [x1, x2], [], σ => tq_gd x1 16 (tq_lj (la σ 3 x1) (fun v2 => tq_ob (tq_fI st_Jl_bitCount (0, [], [v2], σ)) (fun r4 σ5 => some (13, [x1, x2, r4], [v2], σ5))))
  | _, _, _ => none
noncomputable def bk_Go_takeAway_13 : List Int32 → List Int64 → tq_S → Option tq_C
  | [x1, x2, x5], [y3], σ => if x5 ≤ 0 then tq_gd x1 16 (tq_gd x1 16 (tq_gd x1 16 (tq_lj (lput σ 2 x1.toNatClampNeg ((la σ 2 x1) &&& ((la σ 3 x1) ^^^ (-1)))) (fun σ10 => tq_gd x1 16 (tq_lj (lput σ10 3 x1.toNatClampNeg 0) (fun σ12 => some (tq_rt, [], [], σ12))))))) else tq_ob (tq_fI st_Tn_lowestBit (0, [], [y3], σ)) (fun r14 σ15 => tq_gd ((x1 * 64) + r14) 1024 (tq_lj (iput σ15 11 ((x1 * 64) + r14).toNatClampNeg x2) (fun σ17 => tq_lj (y3 &&& (y3 - 1)) (fun v18 => tq_lj (x5 + (-1)) (fun v19 => some (13, [x1, x2, v19], [v18], σ17))))))
  | _, _, _ => none
noncomputable def st_Go_takeAway (c : tq_C) : Option tq_C := if c.1 = 0 then bk_Go_takeAway_0 c.2.1 c.2.2.1 c.2.2.2 else if c.1 = 13 then bk_Go_takeAway_13 c.2.1 c.2.2.1 c.2.2.2 else none
set_option maxHeartbeats 40000000 in
set_option maxRecDepth 100000 in
theorem c_Go_takeAway (l : Launch) (dC : Nat → ClassId) (dI : Nat → Nat → Nat) (cI cL cZ : ClassId) (ad : Nat → Nat) (tt : Nat) (sz : Nat) (σ : tq_S) (a1 : Int32) (a2 : Int32) (σ' : tq_S) (hf : tq_fV st_Go_takeAway (0, [a1, a2], [], σ) = some ((), σ')) : Met l y_Go_takeAway w_Go_takeAway ({ frames := 2, cells := 0, slots := 0, locals := 42 } : Room) (va_Pc [.ref (ad 3), .int a1, .int a2] (tq_B dC dI cI cL cZ tt (wo cI cL cZ ad σ) sz)) (va_Qv (fun (u : tq_S) => u = σ') (tq_E dC dI cI cL cZ (wo cI cL cZ ad) (va_A (wo cI cL cZ ad σ) sz)) (va_A (wo cI cL cZ ad σ) sz)) 0 0 (va_A (wo cI cL cZ ad σ) sz) := by
  obtain ⟨n0, h0⟩ := tq_fV_to hf
  refine Met.ofW (cc := prog_3_method_19_code) (maxL := 6) (ret := none) (by decide) rfl ?_
  intro p e s m args below meth c s₁ B hml hv
  obtain ⟨rfl, hsz, hP, hK, hD0, hZ, hN⟩ := hv
  have hx := B.exec
  have hb := B.bytes
  have hr := B.returns
  have hts : ∀ w ∈ tq_T, w.before _ s = true := fun w h => atoms_spec (ws := w_Go_takeAway) B.pre w (List.mem_cons_of_mem _ h)
  have hown : s.vm.findClass "TableauNodes$GoodTypes" = some m.cls := findClass_of_methodNamed B.named
  have hlocks := B.notSynchronized
  subst hsz
  have hD := hD0.self (sz := s.heap.size)
  have hS : va_S (va_A (wo cI cL cZ ad σ) s.heap.size) s.heap s.heap [] := va_S.rf
  have hA : ∀ q : Nat, s.heap.size ≤ q → va_A (wo cI cL cZ ad σ) s.heap.size q := fun q h => Or.inr h
  generalize va_A (wo cI cL cZ ad σ) s.heap.size = A at hD hS hA hZ ⊢
  have hl := lv_entry ([.ref (ad 3), .int a1, .int a2]) (n := 6) (Nat.le_of_ble_eq_true rfl)
  rw [lg_entry_eq]
  generalize (lg_sl ([.ref (ad 3), .int a1, .int a2]) ++ List.replicate (6 - (lg_sl ([.ref (ad 3), .int a1, .int a2])).length) Slot.unset).toArray = ls at hl ⊢
  have hl : lv_has ls 6 [(0, .ref (ad 3)), (1, .int a1), (2, .int a2)] := hl
  have key : ∀ n : Nat, (∀ {x1 x2 : Int32} {σ : tq_S} {H : Heap} {locs : List Loc} {ls : Array Slot}, va_P (dC, dI) tq_cl (wo cI cL cZ ad σ) H → va_D A (wo cI cL cZ ad σ) → va_S A s.heap H locs → lv_has ls 6 [(0, .ref (ad 3)), (1, .int x1), (2, .int x2)] → tq_go st_Go_takeAway n (0, [x1, x2], [], σ) = some (tq_rt, [], [], σ') → W p l e (headSpec w_Go_takeAway ({ frames := 2, cells := 0, slots := 0, locals := 42 } : Room)).room s m ([.ref (ad 3), .int a1, .int a2] : List Value).toArray below meth c H locs 0 0 (MQ below (va_Qv (fun (u : tq_S) => u = σ') (tq_E dC dI cI cL cZ (wo cI cL cZ ad) A) A) ([.ref (ad 3), .int a1, .int a2] : List Value).toArray s 0 0 A) (F0 m 0 ls [])) ∧ (∀ {x1 x2 x5 : Int32} {y3 : Int64} {σ : tq_S} {H : Heap} {locs : List Loc} {ls : Array Slot}, va_P (dC, dI) tq_cl (wo cI cL cZ ad σ) H → va_D A (wo cI cL cZ ad σ) → va_S A s.heap H locs → lv_has ls 6 [(0, .ref (ad 3)), (1, .int x1), (2, .int x2), (3, .long y3), (5, .int x5)] → tq_go st_Go_takeAway n (13, [x1, x2, x5], [y3], σ) = some (tq_rt, [], [], σ') → W p l e (headSpec w_Go_takeAway ({ frames := 2, cells := 0, slots := 0, locals := 42 } : Room)).room s m ([.ref (ad 3), .int a1, .int a2] : List Value).toArray below meth c H locs 0 0 (MQ below (va_Qv (fun (u : tq_S) => u = σ') (tq_E dC dI cI cL cZ (wo cI cL cZ ad) A) A) ([.ref (ad 3), .int a1, .int a2] : List Value).toArray s 0 0 A) (F0 m 13 ls [])) := by
    intro n
    induction n with
    | zero => exact ⟨(fun _ _ _ _ h => by cases h), (fun _ _ _ _ h => by cases h)⟩
    | succ n ih =>
      refine ⟨?_, ?_⟩
      · intro x1 x2 σ H locs ls hP hD hS hl h9
        obtain ⟨q9, hg, hn⟩ := tq_go_s h9 (show ¬ (0 : Nat) = tq_rt by decide)
        replace hg : bk_Go_takeAway_0 [x1, x2] [] σ = some q9 := hg
        unfold bk_Go_takeAway_0 at hg
        refine lv_aload_n hx hb d_Go_takeAway_0 rfl (lv_at hl 0 rfl) ?_
        refine va_get (D := (dC, dI)) (ci := 3) (v := .ref (ad 20)) (C := "TableauNodes$GoodTypes") (T := F_Go) (N := 15) hx hb hts in_Go hown hK hP 3 rfl rfl 8 (by decide) (hts _ tw_125) (fun _ h9 => h9) rfl d_Go_takeAway_1 ?_
        refine lv_iload_n hx hb d_Go_takeAway_4 rfl (lv_at hl 1 rfl) ?_
        obtain ⟨g1, hg⟩ := tq_gd_s hg
        refine va_lald hx hb hK hP 20 1 rfl rfl g1 d_Go_takeAway_5 ?_
        obtain ⟨v2, ev2, hg⟩ := tq_lj_s hg
        refine tq_nml ev2 ?_
        refine lv_lstore_n (lv' := [(3, .long v2), (0, .ref (ad 3)), (1, .int x1), (2, .int x2)]) hx hb d_Go_takeAway_6 rfl hl (by decide) rfl (fun ls hl => ?_)
        refine lv_lload_n hx hb d_Go_takeAway_7 rfl (lv_at hl 0 rfl) ?_
        obtain ⟨r4, σ5, f3, hg⟩ := tq_ob_s hg
        refine tq_aI (va_runS (As := [.long v2]) (rest := []) ⟨hx, hb, hml, hown, hts⟩ (c_Jl_bitCount l dC dI cI cL cZ ad tt H.size σ  v2 r4 σ5 f3) (va_cwS 1 hts (tq_gS tw_392 tw_393 tw_8 tw_394) rfl rfl rfl (by decide +kernel) ⟨Nat.le_of_ble_eq_true rfl, Nat.le_of_ble_eq_true rfl⟩) ⟨tq_bl, (tq_pr hP hK hD hS hA hZ hN)⟩ rfl rfl hl.1 rfl (lv_room (Nat.le_of_ble_eq_true rfl)) d_Go_takeAway_8 ⟨Nat.zero_le _, Nat.zero_le _⟩) hD hS hA (fun H locs hP hD hS => ?_)
        refine lv_istore (lv' := [(5, .int r4), (3, .long v2), (0, .ref (ad 3)), (1, .int x1), (2, .int x2)]) hx hb d_Go_takeAway_11 hl (by decide) rfl (fun ls hl => ?_)
        exact ih.2 hP hD hS (lv_sub hl [2, 3, 4, 1, 0] rfl) (tq_gi hg hn)
      · intro x1 x2 x5 y3 σ H locs ls hP hD hS hl h9
        obtain ⟨q9, hg, hn⟩ := tq_go_s h9 (show ¬ (13 : Nat) = tq_rt by decide)
        replace hg : bk_Go_takeAway_13 [x1, x2, x5] [y3] σ = some q9 := hg
        unfold bk_Go_takeAway_13 at hg
        refine lv_iload hx hb d_Go_takeAway_13 (lv_at hl 4 rfl) ?_
        refine lv_if_le (tgt := 45) hx hb d_Go_takeAway_15 (by decide) (fun c6 => ?_) (fun c6 => ?_)
        · replace hg := tq_if_t c6 hg
          refine lv_aload_n hx hb d_Go_takeAway_45 rfl (lv_at hl 0 rfl) ?_
          refine va_get (D := (dC, dI)) (ci := 3) (v := .ref (ad 19)) (C := "TableauNodes$GoodTypes") (T := F_Go) (N := 15) hx hb hts in_Go hown hK hP 3 rfl rfl 7 (by decide) (hts _ tw_124) (fun _ h9 => h9) rfl d_Go_takeAway_46 ?_
          refine lv_iload_n hx hb d_Go_takeAway_49 rfl (lv_at hl 1 rfl) ?_
          refine lv_dup2_11 hx hb d_Go_takeAway_50 rfl rfl ?_
          obtain ⟨g7, hg⟩ := tq_gd_s hg
          refine va_lald hx hb hK hP 19 1 rfl rfl g7 d_Go_takeAway_51 ?_
          refine lv_aload_n hx hb d_Go_takeAway_52 rfl (lv_at hl 0 rfl) ?_
          refine va_get (D := (dC, dI)) (ci := 3) (v := .ref (ad 20)) (C := "TableauNodes$GoodTypes") (T := F_Go) (N := 15) hx hb hts in_Go hown hK hP 3 rfl rfl 8 (by decide) (hts _ tw_125) (fun _ h9 => h9) rfl d_Go_takeAway_53 ?_
          refine lv_iload_n hx hb d_Go_takeAway_56 rfl (lv_at hl 1 rfl) ?_
          obtain ⟨g8, hg⟩ := tq_gd_s hg
          refine va_lald hx hb hK hP 20 1 rfl rfl g8 d_Go_takeAway_57 ?_
          refine lv_ldc2 (v := (-1)) hx hb hown (hts _ tw_355) d_Go_takeAway_58 ?_
          refine lv_lxor hx hb d_Go_takeAway_61 ?_
          refine lv_land hx hb d_Go_takeAway_62 ?_
          obtain ⟨g9, hg⟩ := tq_gd_s hg
          refine va_last hx hb hK hP hD hS 19 1 rfl rfl g9 d_Go_takeAway_63 (fun H locs hP hD hS => ?_)
          obtain ⟨σ10, eσ10, hg⟩ := tq_lj_s hg
          replace hP : va_P (dC, dI) tq_cl (wo cI cL cZ ad σ10) H := by rw [eσ10, ← ws_l2]; exact hP
          replace hD : va_D A (wo cI cL cZ ad σ10) := by rw [eσ10, ← ws_l2]; exact hD
          refine lv_aload_n hx hb d_Go_takeAway_64 rfl (lv_at hl 0 rfl) ?_
          refine va_get (D := (dC, dI)) (ci := 3) (v := .ref (ad 20)) (C := "TableauNodes$GoodTypes") (T := F_Go) (N := 15) hx hb hts in_Go hown hK hP 3 rfl rfl 8 (by decide) (hts _ tw_125) (fun _ h9 => h9) rfl d_Go_takeAway_65 ?_
          refine lv_iload_n hx hb d_Go_takeAway_68 rfl (lv_at hl 1 rfl) ?_
          refine lv_lconst (v := 0) hx hb d_Go_takeAway_69 (by decide) ?_
          obtain ⟨g11, hg⟩ := tq_gd_s hg
          refine va_last hx hb hK hP hD hS 20 1 rfl rfl g11 d_Go_takeAway_70 (fun H locs hP hD hS => ?_)
          obtain ⟨σ12, eσ12, hg⟩ := tq_lj_s hg
          replace hP : va_P (dC, dI) tq_cl (wo cI cL cZ ad σ12) H := by rw [eσ12, ← ws_l3]; exact hP
          replace hD : va_D A (wo cI cL cZ ad σ12) := by rw [eσ12, ← ws_l3]; exact hD
          exact W.vret hx hb hr (fun t ht hW => ⟨⟨σ12, rfl, tq_grV hg hn, by rw [ht]; exact hP, va_K.moved hW.alike hK, hD⟩, hS.F ht⟩) hS.2.2 d_Go_takeAway_71
        · replace hg := tq_if_f c6 hg
          refine lv_aload_n hx hb d_Go_takeAway_18 rfl (lv_at hl 0 rfl) ?_
          refine va_get (D := (dC, dI)) (ci := 3) (v := .ref (ad 21)) (C := "TableauNodes$GoodTypes") (T := F_Go) (N := 15) hx hb hts in_Go hown hK hP 3 rfl rfl 9 (by decide) (hts _ tw_126) (fun _ h9 => h9) rfl d_Go_takeAway_19 ?_
          refine lv_iload_n hx hb d_Go_takeAway_22 rfl (lv_at hl 1 rfl) ?_
          refine lv_bipush (v := 64) hx hb d_Go_takeAway_23 (by decide) ?_
          refine lv_imul hx hb d_Go_takeAway_25 ?_
          refine lv_lload_n hx hb d_Go_takeAway_26 rfl (lv_at hl 3 rfl) ?_
          obtain ⟨r14, σ15, f13, hg⟩ := tq_ob_s hg
          refine tq_aI (va_runSN (As := [.long y3]) (rest := [.int (x1 * 64), .ref (ad 21)]) ⟨hx, hb, hml, hown, hts⟩ (c_Tn_lowestBit l dC dI cI cL cZ ad tt H.size σ  y3 r14 σ15 f13) ⟨va_cnB 1 hts (tq_gC tw_400) rfl rfl rfl (hN _ (List.mem_of_getElem? (i := 5) rfl)) (hts _ tw_1) (by decide +kernel) ⟨Nat.le_of_ble_eq_true rfl, Nat.le_of_ble_eq_true rfl⟩, hts _ tw_399, trivial⟩ ⟨tq_bl, (tq_pr hP hK hD hS hA hZ hN)⟩ rfl rfl hl.1 rfl (lv_room (Nat.le_of_ble_eq_true rfl)) d_Go_takeAway_27 ⟨Nat.zero_le _, Nat.zero_le _⟩) hD hS hA (fun H locs hP hD hS => ?_)
          refine lv_iadd hx hb d_Go_takeAway_30 ?_
          refine lv_iload_n hx hb d_Go_takeAway_31 rfl (lv_at hl 2 rfl) ?_
          obtain ⟨g16, hg⟩ := tq_gd_s hg
          refine va_iast hx hb hK hP hD hS 21 0 rfl rfl g16 d_Go_takeAway_32 (fun H locs hP hD hS => ?_)
          obtain ⟨σ17, eσ17, hg⟩ := tq_lj_s hg
          replace hP : va_P (dC, dI) tq_cl (wo cI cL cZ ad σ17) H := by rw [eσ17, ← ws_i11]; exact hP
          replace hD : va_D A (wo cI cL cZ ad σ17) := by rw [eσ17, ← ws_i11]; exact hD
          refine lv_lload_n hx hb d_Go_takeAway_33 rfl (lv_at hl 3 rfl) ?_
          refine lv_lload_n hx hb d_Go_takeAway_34 rfl (lv_at hl 3 rfl) ?_
          refine lv_lconst (v := 1) hx hb d_Go_takeAway_35 (by decide) ?_
          refine lv_lsub hx hb d_Go_takeAway_36 ?_
          refine lv_land hx hb d_Go_takeAway_37 ?_
          obtain ⟨v18, ev18, hg⟩ := tq_lj_s hg
          refine tq_nml ev18 ?_
          refine lv_lstore_n (lv' := [(3, .long v18), (0, .ref (ad 3)), (1, .int x1), (2, .int x2), (5, .int x5)]) hx hb d_Go_takeAway_38 rfl hl (by decide) rfl (fun ls hl => ?_)
          obtain ⟨v19, ev19, hg⟩ := tq_lj_s hg
          refine lv_iinc (v := v19) (lv' := [(5, .int v19), (3, .long v18), (0, .ref (ad 3)), (1, .int x1), (2, .int x2)]) hx hb d_Go_takeAway_39 hl (k := 4) rfl (by rw [ev19]; rfl) (by decide) rfl (fun ls hl => ?_)
          refine lv_goto (tgt := 13) hx hb d_Go_takeAway_42 (by decide) ?_
          exact ih.2 hP hD hS (lv_sub hl [2, 3, 4, 1, 0] rfl) (tq_gi hg hn)
  exact (key n0).1 hP hD hS hl h0
noncomputable def bk_Go_makeRound_0 : List Int32 → List Int64 → tq_S → Option tq_C
  | [x1], [], σ => some (2, [x1, 0], [], σ)
  | _, _, _ => none
noncomputable def bk_Go_makeRound_2 : List Int32 → List Int64 → tq_S → Option tq_C
  | [x1, x2], [], σ => if 4 ≤ x2 then some (31, [x1, 0, 0], [], σ) else tq_gd x2 4 (if (ia σ 9 x2) = 0 then tq_lj (x2 + 1) (fun v4 => some (2, [x1, v4], [], σ)) else tq_ob (tq_fV st_Go_markUnserved (0, [x2], [], σ)) (fun _ σ7 => tq_lj (x2 + 1) (fun v8 => some (2, [x1, v8], [], σ7))))
  | _, _, _ => none
noncomputable def bk_Go_makeRound_31 : List Int32 → List Int64 → tq_S → Option tq_C
  | [x1, x2, x3], [], σ => if 16 ≤ x3 then tq_gb x2 (some (tq_rt, [x2], [], σ)) else if ¬ x2 = 0 then some (52, [x1, x3], [], σ) else tq_gd x3 16 (if (lg_cmp (la σ 3 x3) 0) = 0 then tq_ob (tq_fV st_Go_takeAway (0, [x3, x1], [], σ)) (fun _ σ16 => tq_lj (x3 + 1) (fun v17 => some (31, [x1, 0, v17], [], σ16))) else some (52, [x1, x3], [], σ))
  | _, _, _ => none
noncomputable def bk_Go_makeRound_52 : List Int32 → List Int64 → tq_S → Option tq_C
  | [x1, x3], [], σ => tq_ob (tq_fV st_Go_takeAway (0, [x3, x1], [], σ)) (fun _ σ20 => tq_lj (x3 + 1) (fun v21 => some (31, [x1, 1, v21], [], σ20)))
  | _, _, _ => none
noncomputable def st_Go_makeRound (c : tq_C) : Option tq_C := if c.1 = 0 then bk_Go_makeRound_0 c.2.1 c.2.2.1 c.2.2.2 else if c.1 = 2 then bk_Go_makeRound_2 c.2.1 c.2.2.1 c.2.2.2 else if c.1 = 31 then bk_Go_makeRound_31 c.2.1 c.2.2.1 c.2.2.2 else if c.1 = 52 then bk_Go_makeRound_52 c.2.1 c.2.2.1 c.2.2.2 else none
set_option maxHeartbeats 40000000 in
set_option maxRecDepth 100000 in
theorem c_Go_makeRound (l : Launch) (dC : Nat → ClassId) (dI : Nat → Nat → Nat) (cI cL cZ : ClassId) (ad : Nat → Nat) (tt : Nat) (sz : Nat) (σ : tq_S) (a1 : Int32) (r : Int32) (σ' : tq_S) (hf : tq_fI st_Go_makeRound (0, [a1], [], σ) = some (r, σ')) : Met l y_Go_makeRound w_Go_makeRound ({ frames := 4, cells := 0, slots := 0, locals := 92 } : Room) (va_Pc [.ref (ad 3), .int a1] (tq_B dC dI cI cL cZ tt (wo cI cL cZ ad σ) sz)) (va_Qi (fun (r' : Int32) (u : tq_S) => r' = r ∧ u = σ') (tq_E dC dI cI cL cZ (wo cI cL cZ ad) (va_A (wo cI cL cZ ad σ) sz)) (va_A (wo cI cL cZ ad σ) sz)) 0 0 (va_A (wo cI cL cZ ad σ) sz) := by
  obtain ⟨n0, h0⟩ := tq_fI_to hf
  refine Met.ofW (cc := prog_3_method_18_code) (maxL := 4) (ret := (some .boolean)) (by decide) rfl ?_
  intro p e s m args below meth c s₁ B hml hv
  obtain ⟨rfl, hsz, hP, hK, hD0, hZ, hN⟩ := hv
  have hx := B.exec
  have hb := B.bytes
  have hr := B.returns
  have hts : ∀ w ∈ tq_T, w.before _ s = true := fun w h => atoms_spec (ws := w_Go_makeRound) B.pre w (List.mem_cons_of_mem _ h)
  have hown : s.vm.findClass "TableauNodes$GoodTypes" = some m.cls := findClass_of_methodNamed B.named
  have hlocks := B.notSynchronized
  subst hsz
  have hD := hD0.self (sz := s.heap.size)
  have hS : va_S (va_A (wo cI cL cZ ad σ) s.heap.size) s.heap s.heap [] := va_S.rf
  have hA : ∀ q : Nat, s.heap.size ≤ q → va_A (wo cI cL cZ ad σ) s.heap.size q := fun q h => Or.inr h
  generalize va_A (wo cI cL cZ ad σ) s.heap.size = A at hD hS hA hZ ⊢
  have hl := lv_entry ([.ref (ad 3), .int a1]) (n := 4) (Nat.le_of_ble_eq_true rfl)
  rw [lg_entry_eq]
  generalize (lg_sl ([.ref (ad 3), .int a1]) ++ List.replicate (4 - (lg_sl ([.ref (ad 3), .int a1])).length) Slot.unset).toArray = ls at hl ⊢
  have hl : lv_has ls 4 [(0, .ref (ad 3)), (1, .int a1)] := hl
  have key : ∀ n : Nat, (∀ {x1 : Int32} {σ : tq_S} {H : Heap} {locs : List Loc} {ls : Array Slot}, va_P (dC, dI) tq_cl (wo cI cL cZ ad σ) H → va_D A (wo cI cL cZ ad σ) → va_S A s.heap H locs → lv_has ls 4 [(0, .ref (ad 3)), (1, .int x1)] → tq_go st_Go_makeRound n (0, [x1], [], σ) = some (tq_rt, [r], [], σ') → W p l e (headSpec w_Go_makeRound ({ frames := 4, cells := 0, slots := 0, locals := 92 } : Room)).room s m ([.ref (ad 3), .int a1] : List Value).toArray below meth c H locs 0 0 (MQ below (va_Qi (fun (r' : Int32) (u : tq_S) => r' = r ∧ u = σ') (tq_E dC dI cI cL cZ (wo cI cL cZ ad) A) A) ([.ref (ad 3), .int a1] : List Value).toArray s 0 0 A) (F0 m 0 ls [])) ∧ (∀ {x1 x2 : Int32} {σ : tq_S} {H : Heap} {locs : List Loc} {ls : Array Slot}, va_P (dC, dI) tq_cl (wo cI cL cZ ad σ) H → va_D A (wo cI cL cZ ad σ) → va_S A s.heap H locs → lv_has ls 4 [(0, .ref (ad 3)), (1, .int x1), (2, .int x2)] → tq_go st_Go_makeRound n (2, [x1, x2], [], σ) = some (tq_rt, [r], [], σ') → W p l e (headSpec w_Go_makeRound ({ frames := 4, cells := 0, slots := 0, locals := 92 } : Room)).room s m ([.ref (ad 3), .int a1] : List Value).toArray below meth c H locs 0 0 (MQ below (va_Qi (fun (r' : Int32) (u : tq_S) => r' = r ∧ u = σ') (tq_E dC dI cI cL cZ (wo cI cL cZ ad) A) A) ([.ref (ad 3), .int a1] : List Value).toArray s 0 0 A) (F0 m 2 ls [])) ∧ (∀ {x1 x2 x3 : Int32} {σ : tq_S} {H : Heap} {locs : List Loc} {ls : Array Slot}, va_P (dC, dI) tq_cl (wo cI cL cZ ad σ) H → va_D A (wo cI cL cZ ad σ) → va_S A s.heap H locs → lv_has ls 4 [(0, .ref (ad 3)), (1, .int x1), (2, .int x2), (3, .int x3)] → tq_go st_Go_makeRound n (31, [x1, x2, x3], [], σ) = some (tq_rt, [r], [], σ') → W p l e (headSpec w_Go_makeRound ({ frames := 4, cells := 0, slots := 0, locals := 92 } : Room)).room s m ([.ref (ad 3), .int a1] : List Value).toArray below meth c H locs 0 0 (MQ below (va_Qi (fun (r' : Int32) (u : tq_S) => r' = r ∧ u = σ') (tq_E dC dI cI cL cZ (wo cI cL cZ ad) A) A) ([.ref (ad 3), .int a1] : List Value).toArray s 0 0 A) (F0 m 31 ls [])) ∧ (∀ {x1 x3 : Int32} {σ : tq_S} {H : Heap} {locs : List Loc} {ls : Array Slot}, va_P (dC, dI) tq_cl (wo cI cL cZ ad σ) H → va_D A (wo cI cL cZ ad σ) → va_S A s.heap H locs → lv_has ls 4 [(0, .ref (ad 3)), (1, .int x1), (3, .int x3)] → tq_go st_Go_makeRound n (52, [x1, x3], [], σ) = some (tq_rt, [r], [], σ') → W p l e (headSpec w_Go_makeRound ({ frames := 4, cells := 0, slots := 0, locals := 92 } : Room)).room s m ([.ref (ad 3), .int a1] : List Value).toArray below meth c H locs 0 0 (MQ below (va_Qi (fun (r' : Int32) (u : tq_S) => r' = r ∧ u = σ') (tq_E dC dI cI cL cZ (wo cI cL cZ ad) A) A) ([.ref (ad 3), .int a1] : List Value).toArray s 0 0 A) (F0 m 52 ls [])) := by
    intro n
    induction n with
    | zero => exact ⟨(fun _ _ _ _ h => by cases h), (fun _ _ _ _ h => by cases h), (fun _ _ _ _ h => by cases h), (fun _ _ _ _ h => by cases h)⟩
    | succ n ih =>
      refine ⟨?_, ?_, ?_, ?_⟩
      · intro x1 σ H locs ls hP hD hS hl h9
        obtain ⟨q9, hg, hn⟩ := tq_go_s h9 (show ¬ (0 : Nat) = tq_rt by decide)
        replace hg : bk_Go_makeRound_0 [x1] [] σ = some q9 := hg
        unfold bk_Go_makeRound_0 at hg
        refine lv_iconst (v := 0) hx hb d_Go_makeRound_0 (by decide) ?_
        refine lv_istore_n (lv' := [(2, .int 0), (0, .ref (ad 3)), (1, .int x1)]) hx hb d_Go_makeRound_1 rfl hl (by decide) rfl (fun ls hl => ?_)
        exact ih.2.1 hP hD hS (lv_sub hl [1, 2, 0] rfl) (tq_gi hg hn)
      · intro x1 x2 σ H locs ls hP hD hS hl h9
        obtain ⟨q9, hg, hn⟩ := tq_go_s h9 (show ¬ (2 : Nat) = tq_rt by decide)
        replace hg : bk_Go_makeRound_2 [x1, x2] [] σ = some q9 := hg
        unfold bk_Go_makeRound_2 at hg
        refine lv_iload_n hx hb d_Go_makeRound_2 rfl (lv_at hl 2 rfl) ?_
        refine lv_iconst (v := 4) hx hb d_Go_makeRound_3 (by decide) ?_
        refine lv_icmp_ge (tgt := 27) hx hb d_Go_makeRound_4 (by decide) (fun c1 => ?_) (fun c1 => ?_)
        · replace hg := tq_if_t c1 hg
          refine lv_iconst (v := 0) hx hb d_Go_makeRound_27 (by decide) ?_
          refine lv_istore_n (lv' := [(2, .int 0), (0, .ref (ad 3)), (1, .int x1)]) hx hb d_Go_makeRound_28 rfl hl (by decide) rfl (fun ls hl => ?_)
          refine lv_iconst (v := 0) hx hb d_Go_makeRound_29 (by decide) ?_
          refine lv_istore_n (lv' := [(3, .int 0), (2, .int 0), (0, .ref (ad 3)), (1, .int x1)]) hx hb d_Go_makeRound_30 rfl hl (by decide) rfl (fun ls hl => ?_)
          exact ih.2.2.1 hP hD hS (lv_sub hl [2, 3, 1, 0] rfl) (tq_gi hg hn)
        · replace hg := tq_if_f c1 hg
          refine lv_aload_n hx hb d_Go_makeRound_7 rfl (lv_at hl 0 rfl) ?_
          refine va_get (D := (dC, dI)) (ci := 3) (v := .ref (ad 17)) (C := "TableauNodes$GoodTypes") (T := F_Go) (N := 15) hx hb hts in_Go hown hK hP 3 rfl rfl 5 (by decide) (hts _ tw_122) (fun _ h9 => h9) rfl d_Go_makeRound_8 ?_
          refine lv_iload_n hx hb d_Go_makeRound_11 rfl (lv_at hl 2 rfl) ?_
          obtain ⟨g2, hg⟩ := tq_gd_s hg
          refine va_iald hx hb hK hP 17 0 rfl rfl g2 d_Go_makeRound_12 ?_
          refine lv_if_eq (tgt := 21) hx hb d_Go_makeRound_13 (by decide) (fun c3 => ?_) (fun c3 => ?_)
          · replace hg := tq_if_t c3 hg
            obtain ⟨v4, ev4, hg⟩ := tq_lj_s hg
            refine lv_iinc (v := v4) (lv' := [(2, .int v4), (0, .ref (ad 3)), (1, .int x1)]) hx hb d_Go_makeRound_21 hl (k := 2) rfl (by rw [ev4]; rfl) (by decide) rfl (fun ls hl => ?_)
            refine lv_goto (tgt := 2) hx hb d_Go_makeRound_24 (by decide) ?_
            exact ih.2.1 hP hD hS (lv_sub hl [1, 2, 0] rfl) (tq_gi hg hn)
          · replace hg := tq_if_f c3 hg
            refine lv_aload_n hx hb d_Go_makeRound_16 rfl (lv_at hl 0 rfl) ?_
            refine lv_iload_n hx hb d_Go_makeRound_17 rfl (lv_at hl 2 rfl) ?_
            obtain ⟨⟨⟩, σ7, f5, hg⟩ := tq_ob_s hg
            refine tq_aV (va_runV (As := [.int x2]) (rest := []) ⟨hx, hb, hml, hown, hts⟩ (c_Go_markUnserved l dC dI cI cL cZ ad tt H.size σ x2   σ7 f5) (cwV 1 hts (tq_gV tw_366 tw_368 ts_12 tw_4 tw_369) rfl rfl rfl (by decide +kernel) ⟨Nat.le_of_ble_eq_true rfl, Nat.le_of_ble_eq_true rfl⟩) ⟨tq_bl, va_recv hK hP (ci := 3) (q0 := 3) rfl rfl, (tq_pr hP hK hD hS hA hZ hN)⟩ rfl rfl hl.1 rfl (lv_room (Nat.le_of_ble_eq_true rfl)) d_Go_makeRound_18 ⟨Nat.zero_le _, Nat.zero_le _⟩) hD hS hA (fun H locs hP hD hS => ?_)
            obtain ⟨v8, ev8, hg⟩ := tq_lj_s hg
            refine lv_iinc (v := v8) (lv' := [(2, .int v8), (0, .ref (ad 3)), (1, .int x1)]) hx hb d_Go_makeRound_21 hl (k := 2) rfl (by rw [ev8]; rfl) (by decide) rfl (fun ls hl => ?_)
            refine lv_goto (tgt := 2) hx hb d_Go_makeRound_24 (by decide) ?_
            exact ih.2.1 hP hD hS (lv_sub hl [1, 2, 0] rfl) (tq_gi hg hn)
      · intro x1 x2 x3 σ H locs ls hP hD hS hl h9
        obtain ⟨q9, hg, hn⟩ := tq_go_s h9 (show ¬ (31 : Nat) = tq_rt by decide)
        replace hg : bk_Go_makeRound_31 [x1, x2, x3] [] σ = some q9 := hg
        unfold bk_Go_makeRound_31 at hg
        refine lv_iload_n hx hb d_Go_makeRound_31 rfl (lv_at hl 3 rfl) ?_
        refine lv_bipush (v := 16) hx hb d_Go_makeRound_32 (by decide) ?_
        refine lv_icmp_ge (tgt := 70) hx hb d_Go_makeRound_34 (by decide) (fun c9 => ?_) (fun c9 => ?_)
        · replace hg := tq_if_t c9 hg
          refine lv_iload_n hx hb d_Go_makeRound_70 rfl (lv_at hl 2 rfl) ?_
          obtain ⟨b10, hg⟩ := tq_gb_s hg
          exact W.zret (v := x2) hx hb hr (tq_nb b10) (fun t ht hW => ⟨⟨x2, σ, rfl, tq_grI hg hn, by rw [ht]; exact hP, va_K.moved hW.alike hK, hD⟩, hS.F ht⟩) hS.2.2 d_Go_makeRound_71
        · replace hg := tq_if_f c9 hg
          refine lv_iload_n hx hb d_Go_makeRound_37 rfl (lv_at hl 2 rfl) ?_
          refine lv_if_ne (tgt := 52) hx hb d_Go_makeRound_38 (by decide) (fun c11 => ?_) (fun c11 => ?_)
          · replace hg := tq_if_t c11 hg
            exact ih.2.2.2 hP hD hS (lv_sub hl [0, 1, 3] rfl) (tq_gi hg hn)
          · replace hg := tq_if_n c11 hg
            refine lv_aload_n hx hb d_Go_makeRound_41 rfl (lv_at hl 0 rfl) ?_
            refine va_get (D := (dC, dI)) (ci := 3) (v := .ref (ad 20)) (C := "TableauNodes$GoodTypes") (T := F_Go) (N := 15) hx hb hts in_Go hown hK hP 3 rfl rfl 8 (by decide) (hts _ tw_125) (fun _ h9 => h9) rfl d_Go_makeRound_42 ?_
            refine lv_iload_n hx hb d_Go_makeRound_45 rfl (lv_at hl 3 rfl) ?_
            obtain ⟨g12, hg⟩ := tq_gd_s hg
            refine va_lald hx hb hK hP 20 1 rfl rfl g12 d_Go_makeRound_46 ?_
            refine lv_lconst (v := 0) hx hb d_Go_makeRound_47 (by decide) ?_
            refine W.lcmp hx hb d_Go_makeRound_48 ?_
            refine lv_if_eq (tgt := 56) hx hb d_Go_makeRound_49 (by decide) (fun c13 => ?_) (fun c13 => ?_)
            · replace hg := tq_if_t c13 hg
              refine lv_iconst (v := 0) hx hb d_Go_makeRound_56 (by decide) ?_
              refine lv_istore_n (lv' := [(2, .int 0), (0, .ref (ad 3)), (1, .int x1), (3, .int x3)]) hx hb d_Go_makeRound_57 rfl hl (by decide) rfl (fun ls hl => ?_)
              refine lv_aload_n hx hb d_Go_makeRound_58 rfl (lv_at hl 1 rfl) ?_
              refine lv_iload_n hx hb d_Go_makeRound_59 rfl (lv_at hl 3 rfl) ?_
              refine lv_iload_n hx hb d_Go_makeRound_60 rfl (lv_at hl 2 rfl) ?_
              obtain ⟨⟨⟩, σ16, f14, hg⟩ := tq_ob_s hg
              refine tq_aV (va_runV (As := [.int x3, .int x1]) (rest := []) ⟨hx, hb, hml, hown, hts⟩ (c_Go_takeAway l dC dI cI cL cZ ad tt H.size σ x3 x1   σ16 f14) (cwV 2 hts (tq_gV tw_388 tw_390 ts_15 tw_4 tw_391) rfl rfl rfl (by decide +kernel) ⟨Nat.le_of_ble_eq_true rfl, Nat.le_of_ble_eq_true rfl⟩) ⟨tq_bl, va_recv hK hP (ci := 3) (q0 := 3) rfl rfl, (tq_pr hP hK hD hS hA hZ hN)⟩ rfl rfl hl.1 rfl (lv_room (Nat.le_of_ble_eq_true rfl)) d_Go_makeRound_61 ⟨Nat.zero_le _, Nat.zero_le _⟩) hD hS hA (fun H locs hP hD hS => ?_)
              obtain ⟨v17, ev17, hg⟩ := tq_lj_s hg
              refine lv_iinc (v := v17) (lv' := [(3, .int v17), (2, .int 0), (0, .ref (ad 3)), (1, .int x1)]) hx hb d_Go_makeRound_64 hl (k := 3) rfl (by rw [ev17]; rfl) (by decide) rfl (fun ls hl => ?_)
              refine lv_goto (tgt := 31) hx hb d_Go_makeRound_67 (by decide) ?_
              exact ih.2.2.1 hP hD hS (lv_sub hl [2, 3, 1, 0] rfl) (tq_gi hg hn)
            · replace hg := tq_if_f c13 hg
              exact ih.2.2.2 hP hD hS (lv_sub hl [0, 1, 3] rfl) (tq_gi hg hn)
      · intro x1 x3 σ H locs ls hP hD hS hl h9
        obtain ⟨q9, hg, hn⟩ := tq_go_s h9 (show ¬ (52 : Nat) = tq_rt by decide)
        replace hg : bk_Go_makeRound_52 [x1, x3] [] σ = some q9 := hg
        unfold bk_Go_makeRound_52 at hg
        refine lv_iconst (v := 1) hx hb d_Go_makeRound_52 (by decide) ?_
        refine lv_goto (tgt := 57) hx hb d_Go_makeRound_53 (by decide) ?_
        refine lv_istore_n (lv' := [(2, .int 1), (0, .ref (ad 3)), (1, .int x1), (3, .int x3)]) hx hb d_Go_makeRound_57 rfl hl (by decide) rfl (fun ls hl => ?_)
        refine lv_aload_n hx hb d_Go_makeRound_58 rfl (lv_at hl 1 rfl) ?_
        refine lv_iload_n hx hb d_Go_makeRound_59 rfl (lv_at hl 3 rfl) ?_
        refine lv_iload_n hx hb d_Go_makeRound_60 rfl (lv_at hl 2 rfl) ?_
        obtain ⟨⟨⟩, σ20, f18, hg⟩ := tq_ob_s hg
        refine tq_aV (va_runV (As := [.int x3, .int x1]) (rest := []) ⟨hx, hb, hml, hown, hts⟩ (c_Go_takeAway l dC dI cI cL cZ ad tt H.size σ x3 x1   σ20 f18) (cwV 2 hts (tq_gV tw_388 tw_390 ts_15 tw_4 tw_391) rfl rfl rfl (by decide +kernel) ⟨Nat.le_of_ble_eq_true rfl, Nat.le_of_ble_eq_true rfl⟩) ⟨tq_bl, va_recv hK hP (ci := 3) (q0 := 3) rfl rfl, (tq_pr hP hK hD hS hA hZ hN)⟩ rfl rfl hl.1 rfl (lv_room (Nat.le_of_ble_eq_true rfl)) d_Go_makeRound_61 ⟨Nat.zero_le _, Nat.zero_le _⟩) hD hS hA (fun H locs hP hD hS => ?_)
        obtain ⟨v21, ev21, hg⟩ := tq_lj_s hg
        refine lv_iinc (v := v21) (lv' := [(3, .int v21), (2, .int 1), (0, .ref (ad 3)), (1, .int x1)]) hx hb d_Go_makeRound_64 hl (k := 3) rfl (by rw [ev21]; rfl) (by decide) rfl (fun ls hl => ?_)
        refine lv_goto (tgt := 31) hx hb d_Go_makeRound_67 (by decide) ?_
        exact ih.2.2.1 hP hD hS (lv_sub hl [2, 3, 1, 0] rfl) (tq_gi hg hn)
  exact (key n0).1 hP hD hS hl h0
noncomputable def bk_Go_refresh_0 : List Int32 → List Int64 → tq_S → Option tq_C
  | [], [], σ => if ¬ (σ.2.2 4) = 0 then some (22, [], [], σ) else tq_ob (tq_fI st_Co_atomCount (0, [], [], σ)) (fun r3 σ4 => if ¬ (σ.2.2 5) = r3 then some (22, [], [], σ4) else some (tq_rt, [], [], σ4))
  | _, _, _ => none
noncomputable def bk_Go_refresh_22 : List Int32 → List Int64 → tq_S → Option tq_C
  | [], [], σ => tq_ob (tq_fV st_Go_sortSomes (0, [], [], σ)) (fun _ σ8 => tq_ob (tq_fV st_Go_begin (0, [], [], σ8)) (fun _ σ11 => tq_lj (fput σ11 3 0) (fun σ12 => some (37, [1], [], σ12))))
  | _, _, _ => none
noncomputable def bk_Go_refresh_37 : List Int32 → List Int64 → tq_S → Option tq_C
  | [x1], [], σ => if 1024 < x1 then some (63, [], [], σ) else tq_ob (tq_fI st_Go_makeRound (0, [x1], [], σ)) (fun r15 σ16 => if r15 = 0 then some (63, [], [], σ16) else tq_lj (fput σ16 3 x1) (fun σ18 => tq_lj (x1 + 1) (fun v19 => some (37, [v19], [], σ18))))
  | _, _, _ => none
noncomputable def bk_Go_refresh_63 : List Int32 → List Int64 → tq_S → Option tq_C
  | [], [], σ => tq_lj (fput σ 4 0) (fun σ20 => tq_ob (tq_fI st_Co_atomCount (0, [], [], σ20)) (fun r22 σ23 => tq_lj (fput σ23 5 r22) (fun σ24 => tq_lj (fput σ24 6 ((σ24.2.2 6) + 1)) (fun σ25 => some (tq_rt, [], [], σ25)))))
  | _, _, _ => none
noncomputable def st_Go_refresh (c : tq_C) : Option tq_C := if c.1 = 0 then bk_Go_refresh_0 c.2.1 c.2.2.1 c.2.2.2 else if c.1 = 22 then bk_Go_refresh_22 c.2.1 c.2.2.1 c.2.2.2 else if c.1 = 37 then bk_Go_refresh_37 c.2.1 c.2.2.1 c.2.2.2 else if c.1 = 63 then bk_Go_refresh_63 c.2.1 c.2.2.1 c.2.2.2 else none
set_option maxHeartbeats 40000000 in
set_option maxRecDepth 100000 in
theorem c_Go_refresh (l : Launch) (dC : Nat → ClassId) (dI : Nat → Nat → Nat) (cI cL cZ : ClassId) (ad : Nat → Nat) (tt : Nat) (sz : Nat) (σ : tq_S) (σ' : tq_S) (hf : tq_fV st_Go_refresh (0, [], [], σ) = some ((), σ')) : Met l y_Go_refresh w_Go_refresh ({ frames := 5, cells := 0, slots := 0, locals := 115 } : Room) (va_Pc [.ref (ad 3)] (tq_B dC dI cI cL cZ tt (wo cI cL cZ ad σ) sz)) (va_Qv (fun (u : tq_S) => u = σ') (tq_E dC dI cI cL cZ (wo cI cL cZ ad) (va_A (wo cI cL cZ ad σ) sz)) (va_A (wo cI cL cZ ad σ) sz)) 0 0 (va_A (wo cI cL cZ ad σ) sz) := by
  obtain ⟨n0, h0⟩ := tq_fV_to hf
  refine Met.ofW (cc := prog_3_method_5_code) (maxL := 2) (ret := none) (by decide) rfl ?_
  intro p e s m args below meth c s₁ B hml hv
  obtain ⟨rfl, hsz, hP, hK, hD0, hZ, hN⟩ := hv
  have hx := B.exec
  have hb := B.bytes
  have hr := B.returns
  have hts : ∀ w ∈ tq_T, w.before _ s = true := fun w h => atoms_spec (ws := w_Go_refresh) B.pre w (List.mem_cons_of_mem _ h)
  have hown : s.vm.findClass "TableauNodes$GoodTypes" = some m.cls := findClass_of_methodNamed B.named
  have hlocks := B.notSynchronized
  subst hsz
  have hD := hD0.self (sz := s.heap.size)
  have hS : va_S (va_A (wo cI cL cZ ad σ) s.heap.size) s.heap s.heap [] := va_S.rf
  have hA : ∀ q : Nat, s.heap.size ≤ q → va_A (wo cI cL cZ ad σ) s.heap.size q := fun q h => Or.inr h
  generalize va_A (wo cI cL cZ ad σ) s.heap.size = A at hD hS hA hZ ⊢
  have hl := lv_entry ([.ref (ad 3)]) (n := 2) (Nat.le_of_ble_eq_true rfl)
  rw [lg_entry_eq]
  generalize (lg_sl ([.ref (ad 3)]) ++ List.replicate (2 - (lg_sl ([.ref (ad 3)])).length) Slot.unset).toArray = ls at hl ⊢
  have hl : lv_has ls 2 [(0, .ref (ad 3))] := hl
  have key : ∀ n : Nat, (∀ {σ : tq_S} {H : Heap} {locs : List Loc} {ls : Array Slot}, va_P (dC, dI) tq_cl (wo cI cL cZ ad σ) H → va_D A (wo cI cL cZ ad σ) → va_S A s.heap H locs → lv_has ls 2 [(0, .ref (ad 3))] → tq_go st_Go_refresh n (0, [], [], σ) = some (tq_rt, [], [], σ') → W p l e (headSpec w_Go_refresh ({ frames := 5, cells := 0, slots := 0, locals := 115 } : Room)).room s m ([.ref (ad 3)] : List Value).toArray below meth c H locs 0 0 (MQ below (va_Qv (fun (u : tq_S) => u = σ') (tq_E dC dI cI cL cZ (wo cI cL cZ ad) A) A) ([.ref (ad 3)] : List Value).toArray s 0 0 A) (F0 m 0 ls [])) ∧ (∀ {σ : tq_S} {H : Heap} {locs : List Loc} {ls : Array Slot}, va_P (dC, dI) tq_cl (wo cI cL cZ ad σ) H → va_D A (wo cI cL cZ ad σ) → va_S A s.heap H locs → lv_has ls 2 [(0, .ref (ad 3))] → tq_go st_Go_refresh n (22, [], [], σ) = some (tq_rt, [], [], σ') → W p l e (headSpec w_Go_refresh ({ frames := 5, cells := 0, slots := 0, locals := 115 } : Room)).room s m ([.ref (ad 3)] : List Value).toArray below meth c H locs 0 0 (MQ below (va_Qv (fun (u : tq_S) => u = σ') (tq_E dC dI cI cL cZ (wo cI cL cZ ad) A) A) ([.ref (ad 3)] : List Value).toArray s 0 0 A) (F0 m 22 ls [])) ∧ (∀ {x1 : Int32} {σ : tq_S} {H : Heap} {locs : List Loc} {ls : Array Slot}, va_P (dC, dI) tq_cl (wo cI cL cZ ad σ) H → va_D A (wo cI cL cZ ad σ) → va_S A s.heap H locs → lv_has ls 2 [(0, .ref (ad 3)), (1, .int x1)] → tq_go st_Go_refresh n (37, [x1], [], σ) = some (tq_rt, [], [], σ') → W p l e (headSpec w_Go_refresh ({ frames := 5, cells := 0, slots := 0, locals := 115 } : Room)).room s m ([.ref (ad 3)] : List Value).toArray below meth c H locs 0 0 (MQ below (va_Qv (fun (u : tq_S) => u = σ') (tq_E dC dI cI cL cZ (wo cI cL cZ ad) A) A) ([.ref (ad 3)] : List Value).toArray s 0 0 A) (F0 m 37 ls [])) ∧ (∀ {σ : tq_S} {H : Heap} {locs : List Loc} {ls : Array Slot}, va_P (dC, dI) tq_cl (wo cI cL cZ ad σ) H → va_D A (wo cI cL cZ ad σ) → va_S A s.heap H locs → lv_has ls 2 [(0, .ref (ad 3))] → tq_go st_Go_refresh n (63, [], [], σ) = some (tq_rt, [], [], σ') → W p l e (headSpec w_Go_refresh ({ frames := 5, cells := 0, slots := 0, locals := 115 } : Room)).room s m ([.ref (ad 3)] : List Value).toArray below meth c H locs 0 0 (MQ below (va_Qv (fun (u : tq_S) => u = σ') (tq_E dC dI cI cL cZ (wo cI cL cZ ad) A) A) ([.ref (ad 3)] : List Value).toArray s 0 0 A) (F0 m 63 ls [])) := by
    intro n
    induction n with
    | zero => exact ⟨(fun _ _ _ _ h => by cases h), (fun _ _ _ _ h => by cases h), (fun _ _ _ _ h => by cases h), (fun _ _ _ _ h => by cases h)⟩
    | succ n ih =>
      refine ⟨?_, ?_, ?_, ?_⟩
      · intro  σ H locs ls hP hD hS hl h9
        obtain ⟨q9, hg, hn⟩ := tq_go_s h9 (show ¬ (0 : Nat) = tq_rt by decide)
        replace hg : bk_Go_refresh_0 [] [] σ = some q9 := hg
        unfold bk_Go_refresh_0 at hg
        refine lv_aload_n hx hb d_Go_refresh_0 rfl (lv_at hl 0 rfl) ?_
        refine va_get (D := (dC, dI)) (ci := 3) (v := .int (σ.2.2 4)) (C := "TableauNodes$GoodTypes") (T := F_Go) (N := 15) hx hb hts in_Go hown hK hP 3 rfl rfl 12 (by decide) (hts _ tw_129) (fun _ h9 => h9) rfl d_Go_refresh_1 ?_
        refine lv_if_ne (tgt := 22) hx hb d_Go_refresh_4 (by decide) (fun c1 => ?_) (fun c1 => ?_)
        · replace hg := tq_if_t c1 hg
          exact ih.2.1 hP hD hS (lv_sub hl [0] rfl) (tq_gi hg hn)
        · replace hg := tq_if_n c1 hg
          refine lv_aload_n hx hb d_Go_refresh_7 rfl (lv_at hl 0 rfl) ?_
          refine va_get (D := (dC, dI)) (ci := 3) (v := .int (σ.2.2 5)) (C := "TableauNodes$GoodTypes") (T := F_Go) (N := 15) hx hb hts in_Go hown hK hP 3 rfl rfl 13 (by decide) (hts _ tw_130) (fun _ h9 => h9) rfl d_Go_refresh_8 ?_
          refine lv_aload_n hx hb d_Go_refresh_11 rfl (lv_at hl 0 rfl) ?_
          refine va_get (D := (dC, dI)) (ci := 3) (v := .ref (ad 1)) (C := "TableauNodes$GoodTypes") (T := F_Go) (N := 15) hx hb hts in_Go hown hK hP 3 rfl rfl 0 (by decide) (hts _ tw_117) (fun _ h9 => h9) rfl d_Go_refresh_12 ?_
          obtain ⟨r3, σ4, f2, hg⟩ := tq_ob_s hg
          refine tq_aI (va_runV (As := []) (rest := [.int (σ.2.2 5)]) ⟨hx, hb, hml, hown, hts⟩ (c_Co_atomCount l dC dI cI cL cZ ad tt H.size σ   r3 σ4 f2) (cwV 0 hts (tq_gV tw_315 tw_275 tw_276 tw_2 tw_277) rfl rfl rfl (by decide +kernel) ⟨Nat.le_of_ble_eq_true rfl, Nat.le_of_ble_eq_true rfl⟩) ⟨tq_bl, va_recv hK hP (ci := 1) (q0 := 1) rfl rfl, (tq_pr hP hK hD hS hA hZ hN)⟩ rfl rfl hl.1 rfl (lv_room (Nat.le_of_ble_eq_true rfl)) d_Go_refresh_15 ⟨Nat.zero_le _, Nat.zero_le _⟩) hD hS hA (fun H locs hP hD hS => ?_)
          refine lv_icmp_ne (tgt := 22) hx hb d_Go_refresh_18 (by decide) (fun c5 => ?_) (fun c5 => ?_)
          · replace hg := tq_if_t c5 hg
            exact ih.2.1 hP hD hS (lv_sub hl [0] rfl) (tq_gi hg hn)
          · replace hg := tq_if_n c5 hg
            exact W.vret hx hb hr (fun t ht hW => ⟨⟨σ4, rfl, tq_grV hg hn, by rw [ht]; exact hP, va_K.moved hW.alike hK, hD⟩, hS.F ht⟩) hS.2.2 d_Go_refresh_21
      · intro  σ H locs ls hP hD hS hl h9
        obtain ⟨q9, hg, hn⟩ := tq_go_s h9 (show ¬ (22 : Nat) = tq_rt by decide)
        replace hg : bk_Go_refresh_22 [] [] σ = some q9 := hg
        unfold bk_Go_refresh_22 at hg
        refine lv_aload_n hx hb d_Go_refresh_22 rfl (lv_at hl 0 rfl) ?_
        obtain ⟨⟨⟩, σ8, f6, hg⟩ := tq_ob_s hg
        refine tq_aV (va_runV (As := []) (rest := []) ⟨hx, hb, hml, hown, hts⟩ (c_Go_sortSomes l dC dI cI cL cZ ad tt H.size σ    σ8 f6) (cwV 0 hts (tq_gV tw_316 tw_318 ts_7 tw_4 tw_319) rfl rfl rfl (by decide +kernel) ⟨Nat.le_of_ble_eq_true rfl, Nat.le_of_ble_eq_true rfl⟩) ⟨tq_bl, va_recv hK hP (ci := 3) (q0 := 3) rfl rfl, (tq_pr hP hK hD hS hA hZ hN)⟩ rfl rfl hl.1 rfl (lv_room (Nat.le_of_ble_eq_true rfl)) d_Go_refresh_23 ⟨Nat.zero_le _, Nat.zero_le _⟩) hD hS hA (fun H locs hP hD hS => ?_)
        refine lv_aload_n hx hb d_Go_refresh_26 rfl (lv_at hl 0 rfl) ?_
        obtain ⟨⟨⟩, σ11, f9, hg⟩ := tq_ob_s hg
        refine tq_aV (va_runV (As := []) (rest := []) ⟨hx, hb, hml, hown, hts⟩ (c_Go_begin l dC dI cI cL cZ ad tt H.size σ8    σ11 f9) (cwV 0 hts (tq_gV tw_334 tw_336 ts_8 tw_4 tw_337) rfl rfl rfl (by decide +kernel) ⟨Nat.le_of_ble_eq_true rfl, Nat.le_of_ble_eq_true rfl⟩) ⟨tq_bl, va_recv hK hP (ci := 3) (q0 := 3) rfl rfl, (tq_pr hP hK hD hS hA hZ hN)⟩ rfl rfl hl.1 rfl (lv_room (Nat.le_of_ble_eq_true rfl)) d_Go_refresh_27 ⟨Nat.zero_le _, Nat.zero_le _⟩) hD hS hA (fun H locs hP hD hS => ?_)
        refine lv_aload_n hx hb d_Go_refresh_30 rfl (lv_at hl 0 rfl) ?_
        refine lv_iconst (v := 0) hx hb d_Go_refresh_31 (by decide) ?_
        refine va_put (D := (dC, dI)) (ci := 3) (v := .int 0) (ty := .int) (C := "TableauNodes$GoodTypes") (T := F_Go) (N := 15) hx hb hts in_Go ty_Go tk_Go nm_Go hown hK hP hD hS 3 rfl rfl 11 (by decide) (hts _ tw_128) (fun _ h9 => h9) rfl (by decide +kernel) rfl rfl (Nat.le_of_ble_eq_true rfl) d_Go_refresh_32 (fun H locs hP hD hS => ?_)
        obtain ⟨σ12, eσ12, hg⟩ := tq_lj_s hg
        replace hP : va_P (dC, dI) tq_cl (wo cI cL cZ ad σ12) H := by rw [eσ12, ← ws_f3]; exact hP
        replace hD : va_D A (wo cI cL cZ ad σ12) := by rw [eσ12, ← ws_f3]; exact hD
        refine lv_iconst (v := 1) hx hb d_Go_refresh_35 (by decide) ?_
        refine lv_istore_n (lv' := [(1, .int 1), (0, .ref (ad 3))]) hx hb d_Go_refresh_36 rfl hl (by decide) rfl (fun ls hl => ?_)
        exact ih.2.2.1 hP hD hS (lv_sub hl [1, 0] rfl) (tq_gi hg hn)
      · intro x1 σ H locs ls hP hD hS hl h9
        obtain ⟨q9, hg, hn⟩ := tq_go_s h9 (show ¬ (37 : Nat) = tq_rt by decide)
        replace hg : bk_Go_refresh_37 [x1] [] σ = some q9 := hg
        unfold bk_Go_refresh_37 at hg
        refine lv_iload_n hx hb d_Go_refresh_37 rfl (lv_at hl 1 rfl) ?_
        refine lv_sipush (v := 1024) hx hb d_Go_refresh_38 (by decide) ?_
        refine lv_icmp_gt (tgt := 63) hx hb d_Go_refresh_41 (by decide) (fun c13 => ?_) (fun c13 => ?_)
        · replace hg := tq_if_t c13 hg
          exact ih.2.2.2 hP hD hS (lv_sub hl [0] rfl) (tq_gi hg hn)
        · replace hg := tq_if_f c13 hg
          refine lv_aload_n hx hb d_Go_refresh_44 rfl (lv_at hl 0 rfl) ?_
          refine lv_iload_n hx hb d_Go_refresh_45 rfl (lv_at hl 1 rfl) ?_
          obtain ⟨r15, σ16, f14, hg⟩ := tq_ob_s hg
          refine tq_aI (va_runV (As := [.int x1]) (rest := []) ⟨hx, hb, hml, hown, hts⟩ (c_Go_makeRound l dC dI cI cL cZ ad tt H.size σ x1  r15 σ16 f14) (cwV 1 hts (tq_gV tw_362 tw_364 ts_11 tw_4 tw_365) rfl rfl rfl (by decide +kernel) ⟨Nat.le_of_ble_eq_true rfl, Nat.le_of_ble_eq_true rfl⟩) ⟨tq_bl, va_recv hK hP (ci := 3) (q0 := 3) rfl rfl, (tq_pr hP hK hD hS hA hZ hN)⟩ rfl rfl hl.1 rfl (lv_room (Nat.le_of_ble_eq_true rfl)) d_Go_refresh_46 ⟨Nat.zero_le _, Nat.zero_le _⟩) hD hS hA (fun H locs hP hD hS => ?_)
          refine lv_if_eq (tgt := 63) hx hb d_Go_refresh_49 (by decide) (fun c17 => ?_) (fun c17 => ?_)
          · replace hg := tq_if_t c17 hg
            exact ih.2.2.2 hP hD hS (lv_sub hl [0] rfl) (tq_gi hg hn)
          · replace hg := tq_if_f c17 hg
            refine lv_aload_n hx hb d_Go_refresh_52 rfl (lv_at hl 0 rfl) ?_
            refine lv_iload_n hx hb d_Go_refresh_53 rfl (lv_at hl 1 rfl) ?_
            refine va_put (D := (dC, dI)) (ci := 3) (v := .int x1) (ty := .int) (C := "TableauNodes$GoodTypes") (T := F_Go) (N := 15) hx hb hts in_Go ty_Go tk_Go nm_Go hown hK hP hD hS 3 rfl rfl 11 (by decide) (hts _ tw_128) (fun _ h9 => h9) rfl (by decide +kernel) rfl rfl (Nat.le_of_ble_eq_true rfl) d_Go_refresh_54 (fun H locs hP hD hS => ?_)
            obtain ⟨σ18, eσ18, hg⟩ := tq_lj_s hg
            replace hP : va_P (dC, dI) tq_cl (wo cI cL cZ ad σ18) H := by rw [eσ18, ← ws_f3]; exact hP
            replace hD : va_D A (wo cI cL cZ ad σ18) := by rw [eσ18, ← ws_f3]; exact hD
            obtain ⟨v19, ev19, hg⟩ := tq_lj_s hg
            refine lv_iinc (v := v19) (lv' := [(1, .int v19), (0, .ref (ad 3))]) hx hb d_Go_refresh_57 hl (k := 1) rfl (by rw [ev19]; rfl) (by decide) rfl (fun ls hl => ?_)
            refine lv_goto (tgt := 37) hx hb d_Go_refresh_60 (by decide) ?_
            exact ih.2.2.1 hP hD hS (lv_sub hl [1, 0] rfl) (tq_gi hg hn)
      · intro  σ H locs ls hP hD hS hl h9
        obtain ⟨q9, hg, hn⟩ := tq_go_s h9 (show ¬ (63 : Nat) = tq_rt by decide)
        replace hg : bk_Go_refresh_63 [] [] σ = some q9 := hg
        unfold bk_Go_refresh_63 at hg
        refine lv_aload_n hx hb d_Go_refresh_63 rfl (lv_at hl 0 rfl) ?_
        refine lv_iconst (v := 0) hx hb d_Go_refresh_64 (by decide) ?_
        refine va_put (D := (dC, dI)) (ci := 3) (v := .int 0) (ty := .boolean) (C := "TableauNodes$GoodTypes") (T := F_Go) (N := 15) hx hb hts in_Go ty_Go tk_Go nm_Go hown hK hP hD hS 3 rfl rfl 12 (by decide) (hts _ tw_129) (fun _ h9 => h9) rfl (by decide +kernel) rfl rfl (Nat.le_of_ble_eq_true rfl) d_Go_refresh_65 (fun H locs hP hD hS => ?_)
        obtain ⟨σ20, eσ20, hg⟩ := tq_lj_s hg
        replace hP : va_P (dC, dI) tq_cl (wo cI cL cZ ad σ20) H := by rw [eσ20, ← ws_f4]; exact hP
        replace hD : va_D A (wo cI cL cZ ad σ20) := by rw [eσ20, ← ws_f4]; exact hD
        refine lv_aload_n hx hb d_Go_refresh_68 rfl (lv_at hl 0 rfl) ?_
        refine lv_aload_n hx hb d_Go_refresh_69 rfl (lv_at hl 0 rfl) ?_
        refine va_get (D := (dC, dI)) (ci := 3) (v := .ref (ad 1)) (C := "TableauNodes$GoodTypes") (T := F_Go) (N := 15) hx hb hts in_Go hown hK hP 3 rfl rfl 0 (by decide) (hts _ tw_117) (fun _ h9 => h9) rfl d_Go_refresh_70 ?_
        obtain ⟨r22, σ23, f21, hg⟩ := tq_ob_s hg
        refine tq_aI (va_runV (As := []) (rest := [.ref (ad 3)]) ⟨hx, hb, hml, hown, hts⟩ (c_Co_atomCount l dC dI cI cL cZ ad tt H.size σ20   r22 σ23 f21) (cwV 0 hts (tq_gV tw_315 tw_275 tw_276 tw_2 tw_277) rfl rfl rfl (by decide +kernel) ⟨Nat.le_of_ble_eq_true rfl, Nat.le_of_ble_eq_true rfl⟩) ⟨tq_bl, va_recv hK hP (ci := 1) (q0 := 1) rfl rfl, (tq_pr hP hK hD hS hA hZ hN)⟩ rfl rfl hl.1 rfl (lv_room (Nat.le_of_ble_eq_true rfl)) d_Go_refresh_73 ⟨Nat.zero_le _, Nat.zero_le _⟩) hD hS hA (fun H locs hP hD hS => ?_)
        refine va_put (D := (dC, dI)) (ci := 3) (v := .int r22) (ty := .int) (C := "TableauNodes$GoodTypes") (T := F_Go) (N := 15) hx hb hts in_Go ty_Go tk_Go nm_Go hown hK hP hD hS 3 rfl rfl 13 (by decide) (hts _ tw_130) (fun _ h9 => h9) rfl (by decide +kernel) rfl rfl (Nat.le_of_ble_eq_true rfl) d_Go_refresh_76 (fun H locs hP hD hS => ?_)
        obtain ⟨σ24, eσ24, hg⟩ := tq_lj_s hg
        replace hP : va_P (dC, dI) tq_cl (wo cI cL cZ ad σ24) H := by rw [eσ24, ← ws_f5]; exact hP
        replace hD : va_D A (wo cI cL cZ ad σ24) := by rw [eσ24, ← ws_f5]; exact hD
        refine lv_aload_n hx hb d_Go_refresh_79 rfl (lv_at hl 0 rfl) ?_
        refine lv_dup hx hb d_Go_refresh_80 rfl ?_
        refine va_get (D := (dC, dI)) (ci := 3) (v := .int (σ24.2.2 6)) (C := "TableauNodes$GoodTypes") (T := F_Go) (N := 15) hx hb hts in_Go hown hK hP 3 rfl rfl 14 (by decide) (hts _ tw_131) (fun _ h9 => h9) rfl d_Go_refresh_81 ?_
        refine lv_iconst (v := 1) hx hb d_Go_refresh_84 (by decide) ?_
        refine lv_iadd hx hb d_Go_refresh_85 ?_
        refine va_put (D := (dC, dI)) (ci := 3) (v := .int ((σ24.2.2 6) + 1)) (ty := .int) (C := "TableauNodes$GoodTypes") (T := F_Go) (N := 15) hx hb hts in_Go ty_Go tk_Go nm_Go hown hK hP hD hS 3 rfl rfl 14 (by decide) (hts _ tw_131) (fun _ h9 => h9) rfl (by decide +kernel) rfl rfl (Nat.le_of_ble_eq_true rfl) d_Go_refresh_86 (fun H locs hP hD hS => ?_)
        obtain ⟨σ25, eσ25, hg⟩ := tq_lj_s hg
        replace hP : va_P (dC, dI) tq_cl (wo cI cL cZ ad σ25) H := by rw [eσ25, ← ws_f6]; exact hP
        replace hD : va_D A (wo cI cL cZ ad σ25) := by rw [eσ25, ← ws_f6]; exact hD
        exact W.vret hx hb hr (fun t ht hW => ⟨⟨σ25, rfl, tq_grV hg hn, by rw [ht]; exact hP, va_K.moved hW.alike hK, hD⟩, hS.F ht⟩) hS.2.2 d_Go_refresh_89
  exact (key n0).1 hP hD hS hl h0
noncomputable def bk_Go_someAre_0 : List Int32 → List Int64 → tq_S → Option tq_C
  | [x1], [], σ => some (2, [x1, 0], [], σ)
  | _, _, _ => none
noncomputable def bk_Go_someAre_2 : List Int32 → List Int64 → tq_S → Option tq_C
  | [x1, x2], [], σ => if 16 ≤ x2 then some (tq_rt, [0], [], σ) else tq_gd x2 16 (tq_ob (tq_fL st_Co_word (0, [x1, x2], [], σ)) (fun r4 σ5 => if (lg_cmp ((la σ 2 x2) &&& r4) 0) = 0 then tq_lj (x2 + 1) (fun v7 => some (2, [x1, v7], [], σ5)) else some (tq_rt, [1], [], σ5)))
  | _, _, _ => none
noncomputable def st_Go_someAre (c : tq_C) : Option tq_C := if c.1 = 0 then bk_Go_someAre_0 c.2.1 c.2.2.1 c.2.2.2 else if c.1 = 2 then bk_Go_someAre_2 c.2.1 c.2.2.1 c.2.2.2 else none
set_option maxHeartbeats 40000000 in
set_option maxRecDepth 100000 in
theorem c_Go_someAre (l : Launch) (dC : Nat → ClassId) (dI : Nat → Nat → Nat) (cI cL cZ : ClassId) (ad : Nat → Nat) (tt : Nat) (sz : Nat) (σ : tq_S) (a1 : Int32) (r : Int32) (σ' : tq_S) (hf : tq_fI st_Go_someAre (0, [a1], [], σ) = some (r, σ')) : Met l y_Go_someAre w_Go_someAre ({ frames := 1, cells := 0, slots := 0, locals := 23 } : Room) (va_Pc [.ref (ad 3), .int a1] (tq_B dC dI cI cL cZ tt (wo cI cL cZ ad σ) sz)) (va_Qi (fun (r' : Int32) (u : tq_S) => r' = r ∧ u = σ') (tq_E dC dI cI cL cZ (wo cI cL cZ ad) (va_A (wo cI cL cZ ad σ) sz)) (va_A (wo cI cL cZ ad σ) sz)) 0 0 (va_A (wo cI cL cZ ad σ) sz) := by
  obtain ⟨n0, h0⟩ := tq_fI_to hf
  refine Met.ofW (cc := prog_3_method_10_code) (maxL := 3) (ret := (some .boolean)) (by decide) rfl ?_
  intro p e s m args below meth c s₁ B hml hv
  obtain ⟨rfl, hsz, hP, hK, hD0, hZ, hN⟩ := hv
  have hx := B.exec
  have hb := B.bytes
  have hr := B.returns
  have hts : ∀ w ∈ tq_T, w.before _ s = true := fun w h => atoms_spec (ws := w_Go_someAre) B.pre w (List.mem_cons_of_mem _ h)
  have hown : s.vm.findClass "TableauNodes$GoodTypes" = some m.cls := findClass_of_methodNamed B.named
  have hlocks := B.notSynchronized
  subst hsz
  have hD := hD0.self (sz := s.heap.size)
  have hS : va_S (va_A (wo cI cL cZ ad σ) s.heap.size) s.heap s.heap [] := va_S.rf
  have hA : ∀ q : Nat, s.heap.size ≤ q → va_A (wo cI cL cZ ad σ) s.heap.size q := fun q h => Or.inr h
  generalize va_A (wo cI cL cZ ad σ) s.heap.size = A at hD hS hA hZ ⊢
  have hl := lv_entry ([.ref (ad 3), .int a1]) (n := 3) (Nat.le_of_ble_eq_true rfl)
  rw [lg_entry_eq]
  generalize (lg_sl ([.ref (ad 3), .int a1]) ++ List.replicate (3 - (lg_sl ([.ref (ad 3), .int a1])).length) Slot.unset).toArray = ls at hl ⊢
  have hl : lv_has ls 3 [(0, .ref (ad 3)), (1, .int a1)] := hl
  have key : ∀ n : Nat, (∀ {x1 : Int32} {σ : tq_S} {H : Heap} {locs : List Loc} {ls : Array Slot}, va_P (dC, dI) tq_cl (wo cI cL cZ ad σ) H → va_D A (wo cI cL cZ ad σ) → va_S A s.heap H locs → lv_has ls 3 [(0, .ref (ad 3)), (1, .int x1)] → tq_go st_Go_someAre n (0, [x1], [], σ) = some (tq_rt, [r], [], σ') → W p l e (headSpec w_Go_someAre ({ frames := 1, cells := 0, slots := 0, locals := 23 } : Room)).room s m ([.ref (ad 3), .int a1] : List Value).toArray below meth c H locs 0 0 (MQ below (va_Qi (fun (r' : Int32) (u : tq_S) => r' = r ∧ u = σ') (tq_E dC dI cI cL cZ (wo cI cL cZ ad) A) A) ([.ref (ad 3), .int a1] : List Value).toArray s 0 0 A) (F0 m 0 ls [])) ∧ (∀ {x1 x2 : Int32} {σ : tq_S} {H : Heap} {locs : List Loc} {ls : Array Slot}, va_P (dC, dI) tq_cl (wo cI cL cZ ad σ) H → va_D A (wo cI cL cZ ad σ) → va_S A s.heap H locs → lv_has ls 3 [(0, .ref (ad 3)), (1, .int x1), (2, .int x2)] → tq_go st_Go_someAre n (2, [x1, x2], [], σ) = some (tq_rt, [r], [], σ') → W p l e (headSpec w_Go_someAre ({ frames := 1, cells := 0, slots := 0, locals := 23 } : Room)).room s m ([.ref (ad 3), .int a1] : List Value).toArray below meth c H locs 0 0 (MQ below (va_Qi (fun (r' : Int32) (u : tq_S) => r' = r ∧ u = σ') (tq_E dC dI cI cL cZ (wo cI cL cZ ad) A) A) ([.ref (ad 3), .int a1] : List Value).toArray s 0 0 A) (F0 m 2 ls [])) := by
    intro n
    induction n with
    | zero => exact ⟨(fun _ _ _ _ h => by cases h), (fun _ _ _ _ h => by cases h)⟩
    | succ n ih =>
      refine ⟨?_, ?_⟩
      · intro x1 σ H locs ls hP hD hS hl h9
        obtain ⟨q9, hg, hn⟩ := tq_go_s h9 (show ¬ (0 : Nat) = tq_rt by decide)
        replace hg : bk_Go_someAre_0 [x1] [] σ = some q9 := hg
        unfold bk_Go_someAre_0 at hg
        refine lv_iconst (v := 0) hx hb d_Go_someAre_0 (by decide) ?_
        refine lv_istore_n (lv' := [(2, .int 0), (0, .ref (ad 3)), (1, .int x1)]) hx hb d_Go_someAre_1 rfl hl (by decide) rfl (fun ls hl => ?_)
        exact ih.2 hP hD hS (lv_sub hl [1, 2, 0] rfl) (tq_gi hg hn)
      · intro x1 x2 σ H locs ls hP hD hS hl h9
        obtain ⟨q9, hg, hn⟩ := tq_go_s h9 (show ¬ (2 : Nat) = tq_rt by decide)
        replace hg : bk_Go_someAre_2 [x1, x2] [] σ = some q9 := hg
        unfold bk_Go_someAre_2 at hg
        refine lv_iload_n hx hb d_Go_someAre_2 rfl (lv_at hl 2 rfl) ?_
        refine lv_bipush (v := 16) hx hb d_Go_someAre_3 (by decide) ?_
        refine lv_icmp_ge (tgt := 37) hx hb d_Go_someAre_5 (by decide) (fun c1 => ?_) (fun c1 => ?_)
        · replace hg := tq_if_t c1 hg
          refine lv_iconst (v := 0) hx hb d_Go_someAre_37 (by decide) ?_
          exact W.zret (v := 0) hx hb hr rfl (fun t ht hW => ⟨⟨0, σ, rfl, tq_grI hg hn, by rw [ht]; exact hP, va_K.moved hW.alike hK, hD⟩, hS.F ht⟩) hS.2.2 d_Go_someAre_38
        · replace hg := tq_if_f c1 hg
          refine lv_aload_n hx hb d_Go_someAre_8 rfl (lv_at hl 0 rfl) ?_
          refine va_get (D := (dC, dI)) (ci := 3) (v := .ref (ad 19)) (C := "TableauNodes$GoodTypes") (T := F_Go) (N := 15) hx hb hts in_Go hown hK hP 3 rfl rfl 7 (by decide) (hts _ tw_124) (fun _ h9 => h9) rfl d_Go_someAre_9 ?_
          refine lv_iload_n hx hb d_Go_someAre_12 rfl (lv_at hl 2 rfl) ?_
          obtain ⟨g2, hg⟩ := tq_gd_s hg
          refine va_lald hx hb hK hP 19 1 rfl rfl g2 d_Go_someAre_13 ?_
          refine lv_aload_n hx hb d_Go_someAre_14 rfl (lv_at hl 0 rfl) ?_
          refine va_get (D := (dC, dI)) (ci := 3) (v := .ref (ad 1)) (C := "TableauNodes$GoodTypes") (T := F_Go) (N := 15) hx hb hts in_Go hown hK hP 3 rfl rfl 0 (by decide) (hts _ tw_117) (fun _ h9 => h9) rfl d_Go_someAre_15 ?_
          refine lv_iload_n hx hb d_Go_someAre_18 rfl (lv_at hl 1 rfl) ?_
          refine lv_iload_n hx hb d_Go_someAre_19 rfl (lv_at hl 2 rfl) ?_
          obtain ⟨r4, σ5, f3, hg⟩ := tq_ob_s hg
          refine tq_aL (va_runV (As := [.int x1, .int x2]) (rest := [.long (la σ 2 x2)]) ⟨hx, hb, hml, hown, hts⟩ (c_Co_word l dC dI cI cL cZ ad tt H.size σ x1 x2  r4 σ5 f3) (cwV 2 hts (tq_gV tw_354 tw_49 tw_50 tw_2 tw_51) rfl rfl rfl (by decide +kernel) ⟨Nat.le_of_ble_eq_true rfl, Nat.le_of_ble_eq_true rfl⟩) ⟨tq_bl, va_recv hK hP (ci := 1) (q0 := 1) rfl rfl, (tq_pr hP hK hD hS hA hZ hN)⟩ rfl rfl hl.1 rfl (lv_room (Nat.le_of_ble_eq_true rfl)) d_Go_someAre_20 ⟨Nat.zero_le _, Nat.zero_le _⟩) hD hS hA (fun H locs hP hD hS => ?_)
          refine lv_land hx hb d_Go_someAre_23 ?_
          refine lv_lconst (v := 0) hx hb d_Go_someAre_24 (by decide) ?_
          refine W.lcmp hx hb d_Go_someAre_25 ?_
          refine lv_if_eq (tgt := 31) hx hb d_Go_someAre_26 (by decide) (fun c6 => ?_) (fun c6 => ?_)
          · replace hg := tq_if_t c6 hg
            obtain ⟨v7, ev7, hg⟩ := tq_lj_s hg
            refine lv_iinc (v := v7) (lv' := [(2, .int v7), (0, .ref (ad 3)), (1, .int x1)]) hx hb d_Go_someAre_31 hl (k := 2) rfl (by rw [ev7]; rfl) (by decide) rfl (fun ls hl => ?_)
            refine lv_goto (tgt := 2) hx hb d_Go_someAre_34 (by decide) ?_
            exact ih.2 hP hD hS (lv_sub hl [1, 2, 0] rfl) (tq_gi hg hn)
          · replace hg := tq_if_f c6 hg
            refine lv_iconst (v := 1) hx hb d_Go_someAre_29 (by decide) ?_
            exact W.zret (v := 1) hx hb hr rfl (fun t ht hW => ⟨⟨1, σ5, rfl, tq_grI hg hn, by rw [ht]; exact hP, va_K.moved hW.alike hK, hD⟩, hS.F ht⟩) hS.2.2 d_Go_someAre_30
  exact (key n0).1 hP hD hS hl h0
noncomputable def bk_Go_eachIs_0 : List Int32 → List Int64 → tq_S → Option tq_C
  | [x1, x2], [], σ => some (2, [x1, x2, 0], [], σ)
  | _, _, _ => none
noncomputable def bk_Go_eachIs_2 : List Int32 → List Int64 → tq_S → Option tq_C
  | [x1, x2, x3], [], σ => if 16 ≤ x3 then some (tq_rt, [1], [], σ) else tq_gd x3 16 (tq_ob (tq_fL st_Co_word (0, [x1, x3], [], σ)) (fun r4 σ5 => tq_ob (tq_fL st_Co_word (0, [x2, x3], [], σ5)) (fun r7 σ8 => if (lg_cmp (((la σ 2 x3) &&& r4) &&& (r7 ^^^ (-1))) 0) = 0 then tq_lj (x3 + 1) (fun v10 => some (2, [x1, x2, v10], [], σ8)) else some (tq_rt, [0], [], σ8))))
  | _, _, _ => none
noncomputable def st_Go_eachIs (c : tq_C) : Option tq_C := if c.1 = 0 then bk_Go_eachIs_0 c.2.1 c.2.2.1 c.2.2.2 else if c.1 = 2 then bk_Go_eachIs_2 c.2.1 c.2.2.1 c.2.2.2 else none
set_option maxHeartbeats 40000000 in
set_option maxRecDepth 100000 in
theorem c_Go_eachIs (l : Launch) (dC : Nat → ClassId) (dI : Nat → Nat → Nat) (cI cL cZ : ClassId) (ad : Nat → Nat) (tt : Nat) (sz : Nat) (σ : tq_S) (a1 : Int32) (a2 : Int32) (r : Int32) (σ' : tq_S) (hf : tq_fI st_Go_eachIs (0, [a1, a2], [], σ) = some (r, σ')) : Met l y_Go_eachIs w_Go_eachIs ({ frames := 1, cells := 0, slots := 0, locals := 23 } : Room) (va_Pc [.ref (ad 3), .int a1, .int a2] (tq_B dC dI cI cL cZ tt (wo cI cL cZ ad σ) sz)) (va_Qi (fun (r' : Int32) (u : tq_S) => r' = r ∧ u = σ') (tq_E dC dI cI cL cZ (wo cI cL cZ ad) (va_A (wo cI cL cZ ad σ) sz)) (va_A (wo cI cL cZ ad σ) sz)) 0 0 (va_A (wo cI cL cZ ad σ) sz) := by
  obtain ⟨n0, h0⟩ := tq_fI_to hf
  refine Met.ofW (cc := prog_3_method_11_code) (maxL := 4) (ret := (some .boolean)) (by decide) rfl ?_
  intro p e s m args below meth c s₁ B hml hv
  obtain ⟨rfl, hsz, hP, hK, hD0, hZ, hN⟩ := hv
  have hx := B.exec
  have hb := B.bytes
  have hr := B.returns
  have hts : ∀ w ∈ tq_T, w.before _ s = true := fun w h => atoms_spec (ws := w_Go_eachIs) B.pre w (List.mem_cons_of_mem _ h)
  have hown : s.vm.findClass "TableauNodes$GoodTypes" = some m.cls := findClass_of_methodNamed B.named
  have hlocks := B.notSynchronized
  subst hsz
  have hD := hD0.self (sz := s.heap.size)
  have hS : va_S (va_A (wo cI cL cZ ad σ) s.heap.size) s.heap s.heap [] := va_S.rf
  have hA : ∀ q : Nat, s.heap.size ≤ q → va_A (wo cI cL cZ ad σ) s.heap.size q := fun q h => Or.inr h
  generalize va_A (wo cI cL cZ ad σ) s.heap.size = A at hD hS hA hZ ⊢
  have hl := lv_entry ([.ref (ad 3), .int a1, .int a2]) (n := 4) (Nat.le_of_ble_eq_true rfl)
  rw [lg_entry_eq]
  generalize (lg_sl ([.ref (ad 3), .int a1, .int a2]) ++ List.replicate (4 - (lg_sl ([.ref (ad 3), .int a1, .int a2])).length) Slot.unset).toArray = ls at hl ⊢
  have hl : lv_has ls 4 [(0, .ref (ad 3)), (1, .int a1), (2, .int a2)] := hl
  have key : ∀ n : Nat, (∀ {x1 x2 : Int32} {σ : tq_S} {H : Heap} {locs : List Loc} {ls : Array Slot}, va_P (dC, dI) tq_cl (wo cI cL cZ ad σ) H → va_D A (wo cI cL cZ ad σ) → va_S A s.heap H locs → lv_has ls 4 [(0, .ref (ad 3)), (1, .int x1), (2, .int x2)] → tq_go st_Go_eachIs n (0, [x1, x2], [], σ) = some (tq_rt, [r], [], σ') → W p l e (headSpec w_Go_eachIs ({ frames := 1, cells := 0, slots := 0, locals := 23 } : Room)).room s m ([.ref (ad 3), .int a1, .int a2] : List Value).toArray below meth c H locs 0 0 (MQ below (va_Qi (fun (r' : Int32) (u : tq_S) => r' = r ∧ u = σ') (tq_E dC dI cI cL cZ (wo cI cL cZ ad) A) A) ([.ref (ad 3), .int a1, .int a2] : List Value).toArray s 0 0 A) (F0 m 0 ls [])) ∧ (∀ {x1 x2 x3 : Int32} {σ : tq_S} {H : Heap} {locs : List Loc} {ls : Array Slot}, va_P (dC, dI) tq_cl (wo cI cL cZ ad σ) H → va_D A (wo cI cL cZ ad σ) → va_S A s.heap H locs → lv_has ls 4 [(0, .ref (ad 3)), (1, .int x1), (2, .int x2), (3, .int x3)] → tq_go st_Go_eachIs n (2, [x1, x2, x3], [], σ) = some (tq_rt, [r], [], σ') → W p l e (headSpec w_Go_eachIs ({ frames := 1, cells := 0, slots := 0, locals := 23 } : Room)).room s m ([.ref (ad 3), .int a1, .int a2] : List Value).toArray below meth c H locs 0 0 (MQ below (va_Qi (fun (r' : Int32) (u : tq_S) => r' = r ∧ u = σ') (tq_E dC dI cI cL cZ (wo cI cL cZ ad) A) A) ([.ref (ad 3), .int a1, .int a2] : List Value).toArray s 0 0 A) (F0 m 2 ls [])) := by
    intro n
    induction n with
    | zero => exact ⟨(fun _ _ _ _ h => by cases h), (fun _ _ _ _ h => by cases h)⟩
    | succ n ih =>
      refine ⟨?_, ?_⟩
      · intro x1 x2 σ H locs ls hP hD hS hl h9
        obtain ⟨q9, hg, hn⟩ := tq_go_s h9 (show ¬ (0 : Nat) = tq_rt by decide)
        replace hg : bk_Go_eachIs_0 [x1, x2] [] σ = some q9 := hg
        unfold bk_Go_eachIs_0 at hg
        refine lv_iconst (v := 0) hx hb d_Go_eachIs_0 (by decide) ?_
        refine lv_istore_n (lv' := [(3, .int 0), (0, .ref (ad 3)), (1, .int x1), (2, .int x2)]) hx hb d_Go_eachIs_1 rfl hl (by decide) rfl (fun ls hl => ?_)
        exact ih.2 hP hD hS (lv_sub hl [1, 2, 3, 0] rfl) (tq_gi hg hn)
      · intro x1 x2 x3 σ H locs ls hP hD hS hl h9
        obtain ⟨q9, hg, hn⟩ := tq_go_s h9 (show ¬ (2 : Nat) = tq_rt by decide)
        replace hg : bk_Go_eachIs_2 [x1, x2, x3] [] σ = some q9 := hg
        unfold bk_Go_eachIs_2 at hg
        refine lv_iload_n hx hb d_Go_eachIs_2 rfl (lv_at hl 3 rfl) ?_
        refine lv_bipush (v := 16) hx hb d_Go_eachIs_3 (by decide) ?_
        refine lv_icmp_ge (tgt := 51) hx hb d_Go_eachIs_5 (by decide) (fun c1 => ?_) (fun c1 => ?_)
        · replace hg := tq_if_t c1 hg
          refine lv_iconst (v := 1) hx hb d_Go_eachIs_51 (by decide) ?_
          exact W.zret (v := 1) hx hb hr rfl (fun t ht hW => ⟨⟨1, σ, rfl, tq_grI hg hn, by rw [ht]; exact hP, va_K.moved hW.alike hK, hD⟩, hS.F ht⟩) hS.2.2 d_Go_eachIs_52
        · replace hg := tq_if_f c1 hg
          refine lv_aload_n hx hb d_Go_eachIs_8 rfl (lv_at hl 0 rfl) ?_
          refine va_get (D := (dC, dI)) (ci := 3) (v := .ref (ad 19)) (C := "TableauNodes$GoodTypes") (T := F_Go) (N := 15) hx hb hts in_Go hown hK hP 3 rfl rfl 7 (by decide) (hts _ tw_124) (fun _ h9 => h9) rfl d_Go_eachIs_9 ?_
          refine lv_iload_n hx hb d_Go_eachIs_12 rfl (lv_at hl 3 rfl) ?_
          obtain ⟨g2, hg⟩ := tq_gd_s hg
          refine va_lald hx hb hK hP 19 1 rfl rfl g2 d_Go_eachIs_13 ?_
          refine lv_aload_n hx hb d_Go_eachIs_14 rfl (lv_at hl 0 rfl) ?_
          refine va_get (D := (dC, dI)) (ci := 3) (v := .ref (ad 1)) (C := "TableauNodes$GoodTypes") (T := F_Go) (N := 15) hx hb hts in_Go hown hK hP 3 rfl rfl 0 (by decide) (hts _ tw_117) (fun _ h9 => h9) rfl d_Go_eachIs_15 ?_
          refine lv_iload_n hx hb d_Go_eachIs_18 rfl (lv_at hl 1 rfl) ?_
          refine lv_iload_n hx hb d_Go_eachIs_19 rfl (lv_at hl 3 rfl) ?_
          obtain ⟨r4, σ5, f3, hg⟩ := tq_ob_s hg
          refine tq_aL (va_runV (As := [.int x1, .int x3]) (rest := [.long (la σ 2 x3)]) ⟨hx, hb, hml, hown, hts⟩ (c_Co_word l dC dI cI cL cZ ad tt H.size σ x1 x3  r4 σ5 f3) (cwV 2 hts (tq_gV tw_354 tw_49 tw_50 tw_2 tw_51) rfl rfl rfl (by decide +kernel) ⟨Nat.le_of_ble_eq_true rfl, Nat.le_of_ble_eq_true rfl⟩) ⟨tq_bl, va_recv hK hP (ci := 1) (q0 := 1) rfl rfl, (tq_pr hP hK hD hS hA hZ hN)⟩ rfl rfl hl.1 rfl (lv_room (Nat.le_of_ble_eq_true rfl)) d_Go_eachIs_20 ⟨Nat.zero_le _, Nat.zero_le _⟩) hD hS hA (fun H locs hP hD hS => ?_)
          refine lv_land hx hb d_Go_eachIs_23 ?_
          refine lv_aload_n hx hb d_Go_eachIs_24 rfl (lv_at hl 0 rfl) ?_
          refine va_get (D := (dC, dI)) (ci := 3) (v := .ref (ad 1)) (C := "TableauNodes$GoodTypes") (T := F_Go) (N := 15) hx hb hts in_Go hown hK hP 3 rfl rfl 0 (by decide) (hts _ tw_117) (fun _ h9 => h9) rfl d_Go_eachIs_25 ?_
          refine lv_iload_n hx hb d_Go_eachIs_28 rfl (lv_at hl 2 rfl) ?_
          refine lv_iload_n hx hb d_Go_eachIs_29 rfl (lv_at hl 3 rfl) ?_
          obtain ⟨r7, σ8, f6, hg⟩ := tq_ob_s hg
          refine tq_aL (va_runV (As := [.int x2, .int x3]) (rest := [.long ((la σ 2 x3) &&& r4)]) ⟨hx, hb, hml, hown, hts⟩ (c_Co_word l dC dI cI cL cZ ad tt H.size σ5 x2 x3  r7 σ8 f6) (cwV 2 hts (tq_gV tw_354 tw_49 tw_50 tw_2 tw_51) rfl rfl rfl (by decide +kernel) ⟨Nat.le_of_ble_eq_true rfl, Nat.le_of_ble_eq_true rfl⟩) ⟨tq_bl, va_recv hK hP (ci := 1) (q0 := 1) rfl rfl, (tq_pr hP hK hD hS hA hZ hN)⟩ rfl rfl hl.1 rfl (lv_room (Nat.le_of_ble_eq_true rfl)) d_Go_eachIs_30 ⟨Nat.zero_le _, Nat.zero_le _⟩) hD hS hA (fun H locs hP hD hS => ?_)
          refine lv_ldc2 (v := (-1)) hx hb hown (hts _ tw_355) d_Go_eachIs_33 ?_
          refine lv_lxor hx hb d_Go_eachIs_36 ?_
          refine lv_land hx hb d_Go_eachIs_37 ?_
          refine lv_lconst (v := 0) hx hb d_Go_eachIs_38 (by decide) ?_
          refine W.lcmp hx hb d_Go_eachIs_39 ?_
          refine lv_if_eq (tgt := 45) hx hb d_Go_eachIs_40 (by decide) (fun c9 => ?_) (fun c9 => ?_)
          · replace hg := tq_if_t c9 hg
            obtain ⟨v10, ev10, hg⟩ := tq_lj_s hg
            refine lv_iinc (v := v10) (lv' := [(3, .int v10), (0, .ref (ad 3)), (1, .int x1), (2, .int x2)]) hx hb d_Go_eachIs_45 hl (k := 3) rfl (by rw [ev10]; rfl) (by decide) rfl (fun ls hl => ?_)
            refine lv_goto (tgt := 2) hx hb d_Go_eachIs_48 (by decide) ?_
            exact ih.2 hP hD hS (lv_sub hl [1, 2, 3, 0] rfl) (tq_gi hg hn)
          · replace hg := tq_if_f c9 hg
            refine lv_iconst (v := 0) hx hb d_Go_eachIs_43 (by decide) ?_
            exact W.zret (v := 0) hx hb hr rfl (fun t ht hW => ⟨⟨0, σ8, rfl, tq_grI hg hn, by rw [ht]; exact hP, va_K.moved hW.alike hK, hD⟩, hS.F ht⟩) hS.2.2 d_Go_eachIs_44
  exact (key n0).1 hP hD hS hl h0
noncomputable def bk_Go_size_0 : List Int32 → List Int64 → tq_S → Option tq_C
  | [], [], σ => some (4, [0, 0], [], σ)
  | _, _, _ => none
noncomputable def bk_Go_size_4 : List Int32 → List Int64 → tq_S → Option tq_C
  | [x1, x2], [], σ => if 16 ≤ x2 then some (tq_rt, [x1], [], σ) else tq_gd x2 16 (tq_ob (tq_fI st_Jl_bitCount (0, [], [(la σ 2 x2)], σ)) (fun r4 σ5 => tq_lj (x1 + r4) (fun v6 => tq_lj (x2 + 1) (fun v7 => some (4, [v6, v7], [], σ5)))))
  | _, _, _ => none
noncomputable def st_Go_size (c : tq_C) : Option tq_C := if c.1 = 0 then bk_Go_size_0 c.2.1 c.2.2.1 c.2.2.2 else if c.1 = 4 then bk_Go_size_4 c.2.1 c.2.2.1 c.2.2.2 else none
set_option maxHeartbeats 40000000 in
set_option maxRecDepth 100000 in
theorem c_Go_size (l : Launch) (dC : Nat → ClassId) (dI : Nat → Nat → Nat) (cI cL cZ : ClassId) (ad : Nat → Nat) (tt : Nat) (sz : Nat) (σ : tq_S) (r : Int32) (σ' : tq_S) (hf : tq_fI st_Go_size (0, [], [], σ) = some (r, σ')) : Met l y_Go_size w_Go_size ({ frames := 1, cells := 0, slots := 0, locals := 21 } : Room) (va_Pc [.ref (ad 3)] (tq_B dC dI cI cL cZ tt (wo cI cL cZ ad σ) sz)) (va_Qi (fun (r' : Int32) (u : tq_S) => r' = r ∧ u = σ') (tq_E dC dI cI cL cZ (wo cI cL cZ ad) (va_A (wo cI cL cZ ad σ) sz)) (va_A (wo cI cL cZ ad σ) sz)) 0 0 (va_A (wo cI cL cZ ad σ) sz) := by
  obtain ⟨n0, h0⟩ := tq_fI_to hf
  refine Met.ofW (cc := prog_3_method_7_code) (maxL := 3) (ret := (some .int)) (by decide) rfl ?_
  intro p e s m args below meth c s₁ B hml hv
  obtain ⟨rfl, hsz, hP, hK, hD0, hZ, hN⟩ := hv
  have hx := B.exec
  have hb := B.bytes
  have hr := B.returns
  have hts : ∀ w ∈ tq_T, w.before _ s = true := fun w h => atoms_spec (ws := w_Go_size) B.pre w (List.mem_cons_of_mem _ h)
  have hown : s.vm.findClass "TableauNodes$GoodTypes" = some m.cls := findClass_of_methodNamed B.named
  have hlocks := B.notSynchronized
  subst hsz
  have hD := hD0.self (sz := s.heap.size)
  have hS : va_S (va_A (wo cI cL cZ ad σ) s.heap.size) s.heap s.heap [] := va_S.rf
  have hA : ∀ q : Nat, s.heap.size ≤ q → va_A (wo cI cL cZ ad σ) s.heap.size q := fun q h => Or.inr h
  generalize va_A (wo cI cL cZ ad σ) s.heap.size = A at hD hS hA hZ ⊢
  have hl := lv_entry ([.ref (ad 3)]) (n := 3) (Nat.le_of_ble_eq_true rfl)
  rw [lg_entry_eq]
  generalize (lg_sl ([.ref (ad 3)]) ++ List.replicate (3 - (lg_sl ([.ref (ad 3)])).length) Slot.unset).toArray = ls at hl ⊢
  have hl : lv_has ls 3 [(0, .ref (ad 3))] := hl
  have key : ∀ n : Nat, (∀ {σ : tq_S} {H : Heap} {locs : List Loc} {ls : Array Slot}, va_P (dC, dI) tq_cl (wo cI cL cZ ad σ) H → va_D A (wo cI cL cZ ad σ) → va_S A s.heap H locs → lv_has ls 3 [(0, .ref (ad 3))] → tq_go st_Go_size n (0, [], [], σ) = some (tq_rt, [r], [], σ') → W p l e (headSpec w_Go_size ({ frames := 1, cells := 0, slots := 0, locals := 21 } : Room)).room s m ([.ref (ad 3)] : List Value).toArray below meth c H locs 0 0 (MQ below (va_Qi (fun (r' : Int32) (u : tq_S) => r' = r ∧ u = σ') (tq_E dC dI cI cL cZ (wo cI cL cZ ad) A) A) ([.ref (ad 3)] : List Value).toArray s 0 0 A) (F0 m 0 ls [])) ∧ (∀ {x1 x2 : Int32} {σ : tq_S} {H : Heap} {locs : List Loc} {ls : Array Slot}, va_P (dC, dI) tq_cl (wo cI cL cZ ad σ) H → va_D A (wo cI cL cZ ad σ) → va_S A s.heap H locs → lv_has ls 3 [(0, .ref (ad 3)), (1, .int x1), (2, .int x2)] → tq_go st_Go_size n (4, [x1, x2], [], σ) = some (tq_rt, [r], [], σ') → W p l e (headSpec w_Go_size ({ frames := 1, cells := 0, slots := 0, locals := 21 } : Room)).room s m ([.ref (ad 3)] : List Value).toArray below meth c H locs 0 0 (MQ below (va_Qi (fun (r' : Int32) (u : tq_S) => r' = r ∧ u = σ') (tq_E dC dI cI cL cZ (wo cI cL cZ ad) A) A) ([.ref (ad 3)] : List Value).toArray s 0 0 A) (F0 m 4 ls [])) := by
    intro n
    induction n with
    | zero => exact ⟨(fun _ _ _ _ h => by cases h), (fun _ _ _ _ h => by cases h)⟩
    | succ n ih =>
      refine ⟨?_, ?_⟩
      · intro  σ H locs ls hP hD hS hl h9
        obtain ⟨q9, hg, hn⟩ := tq_go_s h9 (show ¬ (0 : Nat) = tq_rt by decide)
        replace hg : bk_Go_size_0 [] [] σ = some q9 := hg
        unfold bk_Go_size_0 at hg
        refine lv_iconst (v := 0) hx hb d_Go_size_0 (by decide) ?_
        refine lv_istore_n (lv' := [(1, .int 0), (0, .ref (ad 3))]) hx hb d_Go_size_1 rfl hl (by decide) rfl (fun ls hl => ?_)
        refine lv_iconst (v := 0) hx hb d_Go_size_2 (by decide) ?_
        refine lv_istore_n (lv' := [(2, .int 0), (1, .int 0), (0, .ref (ad 3))]) hx hb d_Go_size_3 rfl hl (by decide) rfl (fun ls hl => ?_)
        exact ih.2 hP hD hS (lv_sub hl [2, 1, 0] rfl) (tq_gi hg hn)
      · intro x1 x2 σ H locs ls hP hD hS hl h9
        obtain ⟨q9, hg, hn⟩ := tq_go_s h9 (show ¬ (4 : Nat) = tq_rt by decide)
        replace hg : bk_Go_size_4 [x1, x2] [] σ = some q9 := hg
        unfold bk_Go_size_4 at hg
        refine lv_iload_n hx hb d_Go_size_4 rfl (lv_at hl 2 rfl) ?_
        refine lv_bipush (v := 16) hx hb d_Go_size_5 (by decide) ?_
        refine lv_icmp_ge (tgt := 28) hx hb d_Go_size_7 (by decide) (fun c1 => ?_) (fun c1 => ?_)
        · replace hg := tq_if_t c1 hg
          refine lv_iload_n hx hb d_Go_size_28 rfl (lv_at hl 1 rfl) ?_
          exact W.iret (v := x1) hx hb hr (fun t ht hW => ⟨⟨x1, σ, rfl, tq_grI hg hn, by rw [ht]; exact hP, va_K.moved hW.alike hK, hD⟩, hS.F ht⟩) hS.2.2 d_Go_size_29
        · replace hg := tq_if_f c1 hg
          refine lv_iload_n hx hb d_Go_size_10 rfl (lv_at hl 1 rfl) ?_
          refine lv_aload_n hx hb d_Go_size_11 rfl (lv_at hl 0 rfl) ?_
          refine va_get (D := (dC, dI)) (ci := 3) (v := .ref (ad 19)) (C := "TableauNodes$GoodTypes") (T := F_Go) (N := 15) hx hb hts in_Go hown hK hP 3 rfl rfl 7 (by decide) (hts _ tw_124) (fun _ h9 => h9) rfl d_Go_size_12 ?_
          refine lv_iload_n hx hb d_Go_size_15 rfl (lv_at hl 2 rfl) ?_
          obtain ⟨g2, hg⟩ := tq_gd_s hg
          refine va_lald hx hb hK hP 19 1 rfl rfl g2 d_Go_size_16 ?_
          obtain ⟨r4, σ5, f3, hg⟩ := tq_ob_s hg
          refine tq_aI (va_runS (As := [.long (la σ 2 x2)]) (rest := [.int x1]) ⟨hx, hb, hml, hown, hts⟩ (c_Jl_bitCount l dC dI cI cL cZ ad tt H.size σ  (la σ 2 x2) r4 σ5 f3) (va_cwS 1 hts (tq_gS tw_392 tw_393 tw_8 tw_394) rfl rfl rfl (by decide +kernel) ⟨Nat.le_of_ble_eq_true rfl, Nat.le_of_ble_eq_true rfl⟩) ⟨tq_bl, (tq_pr hP hK hD hS hA hZ hN)⟩ rfl rfl hl.1 rfl (lv_room (Nat.le_of_ble_eq_true rfl)) d_Go_size_17 ⟨Nat.zero_le _, Nat.zero_le _⟩) hD hS hA (fun H locs hP hD hS => ?_)
          refine lv_iadd hx hb d_Go_size_20 ?_
          obtain ⟨v6, ev6, hg⟩ := tq_lj_s hg
          refine tq_nmi ev6 ?_
          refine lv_istore_n (lv' := [(1, .int v6), (0, .ref (ad 3)), (2, .int x2)]) hx hb d_Go_size_21 rfl hl (by decide) rfl (fun ls hl => ?_)
          obtain ⟨v7, ev7, hg⟩ := tq_lj_s hg
          refine lv_iinc (v := v7) (lv' := [(2, .int v7), (1, .int v6), (0, .ref (ad 3))]) hx hb d_Go_size_22 hl (k := 2) rfl (by rw [ev7]; rfl) (by decide) rfl (fun ls hl => ?_)
          refine lv_goto (tgt := 4) hx hb d_Go_size_25 (by decide) ?_
          exact ih.2 hP hD hS (lv_sub hl [2, 1, 0] rfl) (tq_gi hg hn)
  exact (key n0).1 hP hD hS hl h0
noncomputable def bk_Go_roundCount_0 : List Int32 → List Int64 → tq_S → Option tq_C
  | [], [], σ => some (tq_rt, [(σ.2.2 3)], [], σ)
  | _, _, _ => none
noncomputable def st_Go_roundCount (c : tq_C) : Option tq_C := if c.1 = 0 then bk_Go_roundCount_0 c.2.1 c.2.2.1 c.2.2.2 else none
set_option maxHeartbeats 40000000 in
set_option maxRecDepth 100000 in
theorem c_Go_roundCount (l : Launch) (dC : Nat → ClassId) (dI : Nat → Nat → Nat) (cI cL cZ : ClassId) (ad : Nat → Nat) (tt : Nat) (sz : Nat) (σ : tq_S) (r : Int32) (σ' : tq_S) (hf : tq_fI st_Go_roundCount (0, [], [], σ) = some (r, σ')) : Met l y_Go_roundCount w_Go_roundCount ({ frames := 0, cells := 0, slots := 0, locals := 0 } : Room) (va_Pc [.ref (ad 3)] (tq_B dC dI cI cL cZ tt (wo cI cL cZ ad σ) sz)) (va_Qi (fun (r' : Int32) (u : tq_S) => r' = r ∧ u = σ') (tq_E dC dI cI cL cZ (wo cI cL cZ ad) (va_A (wo cI cL cZ ad σ) sz)) (va_A (wo cI cL cZ ad σ) sz)) 0 0 (va_A (wo cI cL cZ ad σ) sz) := by
  obtain ⟨n0, h0⟩ := tq_fI_to hf
  refine Met.ofW (cc := prog_3_method_8_code) (maxL := 1) (ret := (some .int)) (by decide) rfl ?_
  intro p e s m args below meth c s₁ B hml hv
  obtain ⟨rfl, hsz, hP, hK, hD0, hZ, hN⟩ := hv
  have hx := B.exec
  have hb := B.bytes
  have hr := B.returns
  have hts : ∀ w ∈ tq_T, w.before _ s = true := fun w h => atoms_spec (ws := w_Go_roundCount) B.pre w (List.mem_cons_of_mem _ h)
  have hown : s.vm.findClass "TableauNodes$GoodTypes" = some m.cls := findClass_of_methodNamed B.named
  have hlocks := B.notSynchronized
  subst hsz
  have hD := hD0.self (sz := s.heap.size)
  have hS : va_S (va_A (wo cI cL cZ ad σ) s.heap.size) s.heap s.heap [] := va_S.rf
  have hA : ∀ q : Nat, s.heap.size ≤ q → va_A (wo cI cL cZ ad σ) s.heap.size q := fun q h => Or.inr h
  generalize va_A (wo cI cL cZ ad σ) s.heap.size = A at hD hS hA hZ ⊢
  have hl := lv_entry ([.ref (ad 3)]) (n := 1) (Nat.le_of_ble_eq_true rfl)
  rw [lg_entry_eq]
  generalize (lg_sl ([.ref (ad 3)]) ++ List.replicate (1 - (lg_sl ([.ref (ad 3)])).length) Slot.unset).toArray = ls at hl ⊢
  have hl : lv_has ls 1 [(0, .ref (ad 3))] := hl
  have key : ∀ n : Nat, (∀ {σ : tq_S} {H : Heap} {locs : List Loc} {ls : Array Slot}, va_P (dC, dI) tq_cl (wo cI cL cZ ad σ) H → va_D A (wo cI cL cZ ad σ) → va_S A s.heap H locs → lv_has ls 1 [(0, .ref (ad 3))] → tq_go st_Go_roundCount n (0, [], [], σ) = some (tq_rt, [r], [], σ') → W p l e (headSpec w_Go_roundCount ({ frames := 0, cells := 0, slots := 0, locals := 0 } : Room)).room s m ([.ref (ad 3)] : List Value).toArray below meth c H locs 0 0 (MQ below (va_Qi (fun (r' : Int32) (u : tq_S) => r' = r ∧ u = σ') (tq_E dC dI cI cL cZ (wo cI cL cZ ad) A) A) ([.ref (ad 3)] : List Value).toArray s 0 0 A) (F0 m 0 ls [])) := by
    intro n
    induction n with
    | zero => exact fun _ _ _ _ h => by cases h
    | succ n ih =>
      intro  σ H locs ls hP hD hS hl h9
      obtain ⟨q9, hg, hn⟩ := tq_go_s h9 (show ¬ (0 : Nat) = tq_rt by decide)
      replace hg : bk_Go_roundCount_0 [] [] σ = some q9 := hg
      unfold bk_Go_roundCount_0 at hg
      refine lv_aload_n hx hb d_Go_roundCount_0 rfl (lv_at hl 0 rfl) ?_
      refine va_get (D := (dC, dI)) (ci := 3) (v := .int (σ.2.2 3)) (C := "TableauNodes$GoodTypes") (T := F_Go) (N := 15) hx hb hts in_Go hown hK hP 3 rfl rfl 11 (by decide) (hts _ tw_128) (fun _ h9 => h9) rfl d_Go_roundCount_1 ?_
      exact W.iret (v := (σ.2.2 3)) hx hb hr (fun t ht hW => ⟨⟨(σ.2.2 3), σ, rfl, tq_grI hg hn, by rw [ht]; exact hP, va_K.moved hW.alike hK, hD⟩, hS.F ht⟩) hS.2.2 d_Go_roundCount_4
  exact (key n0) hP hD hS hl h0
