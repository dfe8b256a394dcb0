theorem d_Mo_size_0 : decode prog_7_method_15_code 0 = .ok (.iconst 1, 1) := by decide +kernel
theorem d_Mo_size_1 : decode prog_7_method_15_code 1 = .ok (.aload_n 0, 1) := by decide +kernel
theorem d_Mo_size_2 : decode prog_7_method_15_code 2 = .ok (.getfield 74, 3) := by decide +kernel
theorem d_Mo_size_5 : decode prog_7_method_15_code 5 = .ok (.ishl, 1) := by decide +kernel
theorem d_Mo_size_6 : decode prog_7_method_15_code 6 = .ok (.ireturn, 1) := by decide +kernel
theorem d_Mo_atomOf_0 : decode prog_7_method_16_code 0 = .ok (.iconst 0, 1) := by decide +kernel
theorem d_Mo_atomOf_1 : decode prog_7_method_16_code 1 = .ok (.istore_n 2, 1) := by decide +kernel
theorem d_Mo_atomOf_2 : decode prog_7_method_16_code 2 = .ok (.aload_n 0, 1) := by decide +kernel
theorem d_Mo_atomOf_3 : decode prog_7_method_16_code 3 = .ok (.getfield 19, 3) := by decide +kernel
theorem d_Mo_atomOf_6 : decode prog_7_method_16_code 6 = .ok (.iload_n 2, 1) := by decide +kernel
theorem d_Mo_atomOf_7 : decode prog_7_method_16_code 7 = .ok (.iaload, 1) := by decide +kernel
theorem d_Mo_atomOf_8 : decode prog_7_method_16_code 8 = .ok (.iload_n 1, 1) := by decide +kernel
theorem d_Mo_atomOf_9 : decode prog_7_method_16_code 9 = .ok (.if_icmp .eq 9, 3) := by decide +kernel
theorem d_Mo_atomOf_12 : decode prog_7_method_16_code 12 = .ok (.iinc 2 1, 3) := by decide +kernel
theorem d_Mo_atomOf_15 : decode prog_7_method_16_code 15 = .ok (.goto (-13), 3) := by decide +kernel
theorem d_Mo_atomOf_18 : decode prog_7_method_16_code 18 = .ok (.iload_n 2, 1) := by decide +kernel
theorem d_Mo_atomOf_19 : decode prog_7_method_16_code 19 = .ok (.ireturn, 1) := by decide +kernel
theorem d_Mo_isHeld_0 : decode prog_7_method_17_code 0 = .ok (.aload_n 0, 1) := by decide +kernel
theorem d_Mo_isHeld_1 : decode prog_7_method_17_code 1 = .ok (.getfield 48, 3) := by decide +kernel
theorem d_Mo_isHeld_4 : decode prog_7_method_17_code 4 = .ok (.bipush 80, 2) := by decide +kernel
theorem d_Mo_isHeld_6 : decode prog_7_method_17_code 6 = .ok (.iload_n 1, 1) := by decide +kernel
theorem d_Mo_isHeld_7 : decode prog_7_method_17_code 7 = .ok (.imul, 1) := by decide +kernel
theorem d_Mo_isHeld_8 : decode prog_7_method_17_code 8 = .ok (.iload_n 2, 1) := by decide +kernel
theorem d_Mo_isHeld_9 : decode prog_7_method_17_code 9 = .ok (.iadd, 1) := by decide +kernel
theorem d_Mo_isHeld_10 : decode prog_7_method_17_code 10 = .ok (.baload, 1) := by decide +kernel
theorem d_Mo_isHeld_11 : decode prog_7_method_17_code 11 = .ok (.ireturn, 1) := by decide +kernel
theorem d_Mo_weigh_0 : decode prog_7_method_18_code 0 = .ok (.aload_n 0, 1) := by decide +kernel
theorem d_Mo_weigh_1 : decode prog_7_method_18_code 1 = .ok (.getfield 13, 3) := by decide +kernel
theorem d_Mo_weigh_4 : decode prog_7_method_18_code 4 = .ok (.iload_n 2, 1) := by decide +kernel
theorem d_Mo_weigh_5 : decode prog_7_method_18_code 5 = .ok (.iaload, 1) := by decide +kernel
theorem d_Mo_weigh_6 : decode prog_7_method_18_code 6 = .ok (.istore_n 3, 1) := by decide +kernel
theorem d_Mo_weigh_7 : decode prog_7_method_18_code 7 = .ok (.aload_n 0, 1) := by decide +kernel
theorem d_Mo_weigh_8 : decode prog_7_method_18_code 8 = .ok (.getfield 16, 3) := by decide +kernel
theorem d_Mo_weigh_11 : decode prog_7_method_18_code 11 = .ok (.iload_n 2, 1) := by decide +kernel
theorem d_Mo_weigh_12 : decode prog_7_method_18_code 12 = .ok (.iaload, 1) := by decide +kernel
theorem d_Mo_weigh_13 : decode prog_7_method_18_code 13 = .ok (.istore 4, 2) := by decide +kernel
theorem d_Mo_weigh_15 : decode prog_7_method_18_code 15 = .ok (.aload_n 0, 1) := by decide +kernel
theorem d_Mo_weigh_16 : decode prog_7_method_18_code 16 = .ok (.getfield 7, 3) := by decide +kernel
theorem d_Mo_weigh_19 : decode prog_7_method_18_code 19 = .ok (.iload_n 2, 1) := by decide +kernel
theorem d_Mo_weigh_20 : decode prog_7_method_18_code 20 = .ok (.iaload, 1) := by decide +kernel
theorem d_Mo_weigh_21 : decode prog_7_method_18_code 21 = .ok (.tableswitch 162 0 7 #[47, 162, 49, 68, 83, 108, 49, 133], 47) := by decide +kernel
theorem d_Mo_weigh_68 : decode prog_7_method_18_code 68 = .ok (.iconst 1, 1) := by decide +kernel
theorem d_Mo_weigh_69 : decode prog_7_method_18_code 69 = .ok (.ireturn, 1) := by decide +kernel
theorem d_Mo_weigh_70 : decode prog_7_method_18_code 70 = .ok (.iload_n 1, 1) := by decide +kernel
theorem d_Mo_weigh_71 : decode prog_7_method_18_code 71 = .ok (.aload_n 0, 1) := by decide +kernel
theorem d_Mo_weigh_72 : decode prog_7_method_18_code 72 = .ok (.iload_n 2, 1) := by decide +kernel
theorem d_Mo_weigh_73 : decode prog_7_method_18_code 73 = .ok (.invokevirtual 94, 3) := by decide +kernel
theorem d_Mo_weigh_76 : decode prog_7_method_18_code 76 = .ok (.ishr, 1) := by decide +kernel
theorem d_Mo_weigh_77 : decode prog_7_method_18_code 77 = .ok (.iconst 1, 1) := by decide +kernel
theorem d_Mo_weigh_78 : decode prog_7_method_18_code 78 = .ok (.iand, 1) := by decide +kernel
theorem d_Mo_weigh_79 : decode prog_7_method_18_code 79 = .ok (.iconst 1, 1) := by decide +kernel
theorem d_Mo_weigh_80 : decode prog_7_method_18_code 80 = .ok (.if_icmp .ne 7, 3) := by decide +kernel
theorem d_Mo_weigh_83 : decode prog_7_method_18_code 83 = .ok (.iconst 1, 1) := by decide +kernel
theorem d_Mo_weigh_84 : decode prog_7_method_18_code 84 = .ok (.goto 4, 3) := by decide +kernel
theorem d_Mo_weigh_87 : decode prog_7_method_18_code 87 = .ok (.iconst 0, 1) := by decide +kernel
theorem d_Mo_weigh_88 : decode prog_7_method_18_code 88 = .ok (.ireturn, 1) := by decide +kernel
theorem d_Mo_weigh_89 : decode prog_7_method_18_code 89 = .ok (.aload_n 0, 1) := by decide +kernel
theorem d_Mo_weigh_90 : decode prog_7_method_18_code 90 = .ok (.iload_n 1, 1) := by decide +kernel
theorem d_Mo_weigh_91 : decode prog_7_method_18_code 91 = .ok (.iload_n 3, 1) := by decide +kernel
theorem d_Mo_weigh_92 : decode prog_7_method_18_code 92 = .ok (.invokevirtual 98, 3) := by decide +kernel
theorem d_Mo_weigh_95 : decode prog_7_method_18_code 95 = .ok (.ifCond .ne 7, 3) := by decide +kernel
theorem d_Mo_weigh_98 : decode prog_7_method_18_code 98 = .ok (.iconst 1, 1) := by decide +kernel
theorem d_Mo_weigh_99 : decode prog_7_method_18_code 99 = .ok (.goto 4, 3) := by decide +kernel
theorem d_Mo_weigh_102 : decode prog_7_method_18_code 102 = .ok (.iconst 0, 1) := by decide +kernel
theorem d_Mo_weigh_103 : decode prog_7_method_18_code 103 = .ok (.ireturn, 1) := by decide +kernel
theorem d_Mo_weigh_104 : decode prog_7_method_18_code 104 = .ok (.aload_n 0, 1) := by decide +kernel
theorem d_Mo_weigh_105 : decode prog_7_method_18_code 105 = .ok (.iload_n 1, 1) := by decide +kernel
theorem d_Mo_weigh_106 : decode prog_7_method_18_code 106 = .ok (.iload_n 3, 1) := by decide +kernel
theorem d_Mo_weigh_107 : decode prog_7_method_18_code 107 = .ok (.invokevirtual 98, 3) := by decide +kernel
theorem d_Mo_weigh_110 : decode prog_7_method_18_code 110 = .ok (.ifCond .eq 17, 3) := by decide +kernel
theorem d_Mo_weigh_113 : decode prog_7_method_18_code 113 = .ok (.aload_n 0, 1) := by decide +kernel
theorem d_Mo_weigh_114 : decode prog_7_method_18_code 114 = .ok (.iload_n 1, 1) := by decide +kernel
theorem d_Mo_weigh_115 : decode prog_7_method_18_code 115 = .ok (.iload 4, 2) := by decide +kernel
theorem d_Mo_weigh_117 : decode prog_7_method_18_code 117 = .ok (.invokevirtual 98, 3) := by decide +kernel
theorem d_Mo_weigh_120 : decode prog_7_method_18_code 120 = .ok (.ifCond .eq 7, 3) := by decide +kernel
theorem d_Mo_weigh_123 : decode prog_7_method_18_code 123 = .ok (.iconst 1, 1) := by decide +kernel
theorem d_Mo_weigh_124 : decode prog_7_method_18_code 124 = .ok (.goto 4, 3) := by decide +kernel
theorem d_Mo_weigh_127 : decode prog_7_method_18_code 127 = .ok (.iconst 0, 1) := by decide +kernel
theorem d_Mo_weigh_128 : decode prog_7_method_18_code 128 = .ok (.ireturn, 1) := by decide +kernel
theorem d_Mo_weigh_129 : decode prog_7_method_18_code 129 = .ok (.aload_n 0, 1) := by decide +kernel
theorem d_Mo_weigh_130 : decode prog_7_method_18_code 130 = .ok (.iload_n 1, 1) := by decide +kernel
theorem d_Mo_weigh_131 : decode prog_7_method_18_code 131 = .ok (.iload_n 3, 1) := by decide +kernel
theorem d_Mo_weigh_132 : decode prog_7_method_18_code 132 = .ok (.invokevirtual 98, 3) := by decide +kernel
theorem d_Mo_weigh_135 : decode prog_7_method_18_code 135 = .ok (.ifCond .ne 13, 3) := by decide +kernel
theorem d_Mo_weigh_138 : decode prog_7_method_18_code 138 = .ok (.aload_n 0, 1) := by decide +kernel
theorem d_Mo_weigh_139 : decode prog_7_method_18_code 139 = .ok (.iload_n 1, 1) := by decide +kernel
theorem d_Mo_weigh_140 : decode prog_7_method_18_code 140 = .ok (.iload 4, 2) := by decide +kernel
theorem d_Mo_weigh_142 : decode prog_7_method_18_code 142 = .ok (.invokevirtual 98, 3) := by decide +kernel
theorem d_Mo_weigh_145 : decode prog_7_method_18_code 145 = .ok (.ifCond .eq 7, 3) := by decide +kernel
theorem d_Mo_weigh_148 : decode prog_7_method_18_code 148 = .ok (.iconst 1, 1) := by decide +kernel
theorem d_Mo_weigh_149 : decode prog_7_method_18_code 149 = .ok (.goto 4, 3) := by decide +kernel
theorem d_Mo_weigh_152 : decode prog_7_method_18_code 152 = .ok (.iconst 0, 1) := by decide +kernel
theorem d_Mo_weigh_153 : decode prog_7_method_18_code 153 = .ok (.ireturn, 1) := by decide +kernel
theorem d_Mo_weigh_154 : decode prog_7_method_18_code 154 = .ok (.aload_n 0, 1) := by decide +kernel
theorem d_Mo_weigh_155 : decode prog_7_method_18_code 155 = .ok (.iload_n 1, 1) := by decide +kernel
theorem d_Mo_weigh_156 : decode prog_7_method_18_code 156 = .ok (.aload_n 0, 1) := by decide +kernel
theorem d_Mo_weigh_157 : decode prog_7_method_18_code 157 = .ok (.bipush 6, 2) := by decide +kernel
theorem d_Mo_weigh_159 : decode prog_7_method_18_code 159 = .ok (.iload_n 3, 1) := by decide +kernel
theorem d_Mo_weigh_160 : decode prog_7_method_18_code 160 = .ok (.aload_n 0, 1) := by decide +kernel
theorem d_Mo_weigh_161 : decode prog_7_method_18_code 161 = .ok (.iconst 3, 1) := by decide +kernel
theorem d_Mo_weigh_162 : decode prog_7_method_18_code 162 = .ok (.iload 4, 2) := by decide +kernel
theorem d_Mo_weigh_164 : decode prog_7_method_18_code 164 = .ok (.iconst 0, 1) := by decide +kernel
theorem d_Mo_weigh_165 : decode prog_7_method_18_code 165 = .ok (.invokevirtual 70, 3) := by decide +kernel
theorem d_Mo_weigh_168 : decode prog_7_method_18_code 168 = .ok (.invokevirtual 70, 3) := by decide +kernel
theorem d_Mo_weigh_171 : decode prog_7_method_18_code 171 = .ok (.invokevirtual 98, 3) := by decide +kernel
theorem d_Mo_weigh_174 : decode prog_7_method_18_code 174 = .ok (.ifCond .ne 7, 3) := by decide +kernel
theorem d_Mo_weigh_177 : decode prog_7_method_18_code 177 = .ok (.iconst 1, 1) := by decide +kernel
theorem d_Mo_weigh_178 : decode prog_7_method_18_code 178 = .ok (.goto 4, 3) := by decide +kernel
theorem d_Mo_weigh_181 : decode prog_7_method_18_code 181 = .ok (.iconst 0, 1) := by decide +kernel
theorem d_Mo_weigh_182 : decode prog_7_method_18_code 182 = .ok (.ireturn, 1) := by decide +kernel
theorem d_Mo_weigh_183 : decode prog_7_method_18_code 183 = .ok (.iconst 0, 1) := by decide +kernel
theorem d_Mo_weigh_184 : decode prog_7_method_18_code 184 = .ok (.ireturn, 1) := by decide +kernel
theorem d_Mo_forbids_0 : decode prog_7_method_20_code 0 = .ok (.iconst 0, 1) := by decide +kernel
theorem d_Mo_forbids_1 : decode prog_7_method_20_code 1 = .ok (.istore_n 3, 1) := by decide +kernel
theorem d_Mo_forbids_2 : decode prog_7_method_20_code 2 = .ok (.iconst 0, 1) := by decide +kernel
theorem d_Mo_forbids_3 : decode prog_7_method_20_code 3 = .ok (.istore 4, 2) := by decide +kernel
theorem d_Mo_forbids_5 : decode prog_7_method_20_code 5 = .ok (.iload 4, 2) := by decide +kernel
theorem d_Mo_forbids_7 : decode prog_7_method_20_code 7 = .ok (.aload_n 0, 1) := by decide +kernel
theorem d_Mo_forbids_8 : decode prog_7_method_20_code 8 = .ok (.getfield 74, 3) := by decide +kernel
theorem d_Mo_forbids_11 : decode prog_7_method_20_code 11 = .ok (.if_icmp .ge 65, 3) := by decide +kernel
theorem d_Mo_forbids_14 : decode prog_7_method_20_code 14 = .ok (.aload_n 0, 1) := by decide +kernel
theorem d_Mo_forbids_15 : decode prog_7_method_20_code 15 = .ok (.getfield 19, 3) := by decide +kernel
theorem d_Mo_forbids_18 : decode prog_7_method_20_code 18 = .ok (.iload 4, 2) := by decide +kernel
theorem d_Mo_forbids_20 : decode prog_7_method_20_code 20 = .ok (.iaload, 1) := by decide +kernel
theorem d_Mo_forbids_21 : decode prog_7_method_20_code 21 = .ok (.istore 5, 2) := by decide +kernel
theorem d_Mo_forbids_23 : decode prog_7_method_20_code 23 = .ok (.aload_n 0, 1) := by decide +kernel
theorem d_Mo_forbids_24 : decode prog_7_method_20_code 24 = .ok (.getfield 7, 3) := by decide +kernel
theorem d_Mo_forbids_27 : decode prog_7_method_20_code 27 = .ok (.iload 5, 2) := by decide +kernel
theorem d_Mo_forbids_29 : decode prog_7_method_20_code 29 = .ok (.iaload, 1) := by decide +kernel
theorem d_Mo_forbids_30 : decode prog_7_method_20_code 30 = .ok (.bipush 6, 2) := by decide +kernel
theorem d_Mo_forbids_32 : decode prog_7_method_20_code 32 = .ok (.if_icmp .ne 38, 3) := by decide +kernel
theorem d_Mo_forbids_35 : decode prog_7_method_20_code 35 = .ok (.aload_n 0, 1) := by decide +kernel
theorem d_Mo_forbids_36 : decode prog_7_method_20_code 36 = .ok (.getfield 57, 3) := by decide +kernel
theorem d_Mo_forbids_39 : decode prog_7_method_20_code 39 = .ok (.iconst 4, 1) := by decide +kernel
theorem d_Mo_forbids_40 : decode prog_7_method_20_code 40 = .ok (.iload_n 2, 1) := by decide +kernel
theorem d_Mo_forbids_41 : decode prog_7_method_20_code 41 = .ok (.imul, 1) := by decide +kernel
theorem d_Mo_forbids_42 : decode prog_7_method_20_code 42 = .ok (.aload_n 0, 1) := by decide +kernel
theorem d_Mo_forbids_43 : decode prog_7_method_20_code 43 = .ok (.getfield 13, 3) := by decide +kernel
theorem d_Mo_forbids_46 : decode prog_7_method_20_code 46 = .ok (.iload 5, 2) := by decide +kernel
theorem d_Mo_forbids_48 : decode prog_7_method_20_code 48 = .ok (.iaload, 1) := by decide +kernel
theorem d_Mo_forbids_49 : decode prog_7_method_20_code 49 = .ok (.iadd, 1) := by decide +kernel
theorem d_Mo_forbids_50 : decode prog_7_method_20_code 50 = .ok (.baload, 1) := by decide +kernel
theorem d_Mo_forbids_51 : decode prog_7_method_20_code 51 = .ok (.ifCond .eq 19, 3) := by decide +kernel
theorem d_Mo_forbids_54 : decode prog_7_method_20_code 54 = .ok (.iload_n 1, 1) := by decide +kernel
theorem d_Mo_forbids_55 : decode prog_7_method_20_code 55 = .ok (.iload 4, 2) := by decide +kernel
theorem d_Mo_forbids_57 : decode prog_7_method_20_code 57 = .ok (.ishr, 1) := by decide +kernel
theorem d_Mo_forbids_58 : decode prog_7_method_20_code 58 = .ok (.iconst 1, 1) := by decide +kernel
theorem d_Mo_forbids_59 : decode prog_7_method_20_code 59 = .ok (.iand, 1) := by decide +kernel
theorem d_Mo_forbids_60 : decode prog_7_method_20_code 60 = .ok (.ifCond .ne 10, 3) := by decide +kernel
theorem d_Mo_forbids_63 : decode prog_7_method_20_code 63 = .ok (.iload_n 3, 1) := by decide +kernel
theorem d_Mo_forbids_64 : decode prog_7_method_20_code 64 = .ok (.iconst 1, 1) := by decide +kernel
theorem d_Mo_forbids_65 : decode prog_7_method_20_code 65 = .ok (.iload 4, 2) := by decide +kernel
theorem d_Mo_forbids_67 : decode prog_7_method_20_code 67 = .ok (.ishl, 1) := by decide +kernel
theorem d_Mo_forbids_68 : decode prog_7_method_20_code 68 = .ok (.ior, 1) := by decide +kernel
theorem d_Mo_forbids_69 : decode prog_7_method_20_code 69 = .ok (.istore_n 3, 1) := by decide +kernel
theorem d_Mo_forbids_70 : decode prog_7_method_20_code 70 = .ok (.iinc 4 1, 3) := by decide +kernel
theorem d_Mo_forbids_73 : decode prog_7_method_20_code 73 = .ok (.goto (-68), 3) := by decide +kernel
theorem d_Mo_forbids_76 : decode prog_7_method_20_code 76 = .ok (.iload_n 3, 1) := by decide +kernel
theorem d_Mo_forbids_77 : decode prog_7_method_20_code 77 = .ok (.ireturn, 1) := by decide +kernel
theorem d_Mo_isThere_0 : decode prog_7_method_23_code 0 = .ok (.iconst 0, 1) := by decide +kernel
theorem d_Mo_isThere_1 : decode prog_7_method_23_code 1 = .ok (.istore 4, 2) := by decide +kernel
theorem d_Mo_isThere_3 : decode prog_7_method_23_code 3 = .ok (.iconst 0, 1) := by decide +kernel
theorem d_Mo_isThere_4 : decode prog_7_method_23_code 4 = .ok (.istore 5, 2) := by decide +kernel
theorem d_Mo_isThere_6 : decode prog_7_method_23_code 6 = .ok (.iload 5, 2) := by decide +kernel
theorem d_Mo_isThere_8 : decode prog_7_method_23_code 8 = .ok (.aload_n 0, 1) := by decide +kernel
theorem d_Mo_isThere_9 : decode prog_7_method_23_code 9 = .ok (.invokevirtual 102, 3) := by decide +kernel
theorem d_Mo_isThere_12 : decode prog_7_method_23_code 12 = .ok (.if_icmp .ge 69, 3) := by decide +kernel
theorem d_Mo_isThere_15 : decode prog_7_method_23_code 15 = .ok (.iload 4, 2) := by decide +kernel
theorem d_Mo_isThere_17 : decode prog_7_method_23_code 17 = .ok (.ifCond .ne 64, 3) := by decide +kernel
theorem d_Mo_isThere_20 : decode prog_7_method_23_code 20 = .ok (.aload_n 0, 1) := by decide +kernel
theorem d_Mo_isThere_21 : decode prog_7_method_23_code 21 = .ok (.getfield 54, 3) := by decide +kernel
theorem d_Mo_isThere_24 : decode prog_7_method_23_code 24 = .ok (.iload 5, 2) := by decide +kernel
theorem d_Mo_isThere_26 : decode prog_7_method_23_code 26 = .ok (.iaload, 1) := by decide +kernel
theorem d_Mo_isThere_27 : decode prog_7_method_23_code 27 = .ok (.ifCond .eq 14, 3) := by decide +kernel
theorem d_Mo_isThere_30 : decode prog_7_method_23_code 30 = .ok (.aload_n 0, 1) := by decide +kernel
theorem d_Mo_isThere_31 : decode prog_7_method_23_code 31 = .ok (.getfield 54, 3) := by decide +kernel
theorem d_Mo_isThere_34 : decode prog_7_method_23_code 34 = .ok (.iload 5, 2) := by decide +kernel
theorem d_Mo_isThere_36 : decode prog_7_method_23_code 36 = .ok (.iaload, 1) := by decide +kernel
theorem d_Mo_isThere_37 : decode prog_7_method_23_code 37 = .ok (.iload_n 3, 1) := by decide +kernel
theorem d_Mo_isThere_38 : decode prog_7_method_23_code 38 = .ok (.if_icmp .ne 34, 3) := by decide +kernel
theorem d_Mo_isThere_41 : decode prog_7_method_23_code 41 = .ok (.aload_n 0, 1) := by decide +kernel
theorem d_Mo_isThere_42 : decode prog_7_method_23_code 42 = .ok (.getfield 51, 3) := by decide +kernel
theorem d_Mo_isThere_45 : decode prog_7_method_23_code 45 = .ok (.iload 5, 2) := by decide +kernel
theorem d_Mo_isThere_47 : decode prog_7_method_23_code 47 = .ok (.iaload, 1) := by decide +kernel
theorem d_Mo_isThere_48 : decode prog_7_method_23_code 48 = .ok (.iload_n 2, 1) := by decide +kernel
theorem d_Mo_isThere_49 : decode prog_7_method_23_code 49 = .ok (.ishr, 1) := by decide +kernel
theorem d_Mo_isThere_50 : decode prog_7_method_23_code 50 = .ok (.iconst 1, 1) := by decide +kernel
theorem d_Mo_isThere_51 : decode prog_7_method_23_code 51 = .ok (.iand, 1) := by decide +kernel
theorem d_Mo_isThere_52 : decode prog_7_method_23_code 52 = .ok (.iconst 1, 1) := by decide +kernel
theorem d_Mo_isThere_53 : decode prog_7_method_23_code 53 = .ok (.if_icmp .ne 19, 3) := by decide +kernel
theorem d_Mo_isThere_56 : decode prog_7_method_23_code 56 = .ok (.aload_n 0, 1) := by decide +kernel
theorem d_Mo_isThere_57 : decode prog_7_method_23_code 57 = .ok (.getfield 51, 3) := by decide +kernel
theorem d_Mo_isThere_60 : decode prog_7_method_23_code 60 = .ok (.iload 5, 2) := by decide +kernel
theorem d_Mo_isThere_62 : decode prog_7_method_23_code 62 = .ok (.iaload, 1) := by decide +kernel
theorem d_Mo_isThere_63 : decode prog_7_method_23_code 63 = .ok (.iload_n 1, 1) := by decide +kernel
theorem d_Mo_isThere_64 : decode prog_7_method_23_code 64 = .ok (.iand, 1) := by decide +kernel
theorem d_Mo_isThere_65 : decode prog_7_method_23_code 65 = .ok (.ifCond .ne 7, 3) := by decide +kernel
theorem d_Mo_isThere_68 : decode prog_7_method_23_code 68 = .ok (.iconst 1, 1) := by decide +kernel
theorem d_Mo_isThere_69 : decode prog_7_method_23_code 69 = .ok (.goto 4, 3) := by decide +kernel
theorem d_Mo_isThere_72 : decode prog_7_method_23_code 72 = .ok (.iconst 0, 1) := by decide +kernel
theorem d_Mo_isThere_73 : decode prog_7_method_23_code 73 = .ok (.istore 4, 2) := by decide +kernel
theorem d_Mo_isThere_75 : decode prog_7_method_23_code 75 = .ok (.iinc 5 1, 3) := by decide +kernel
theorem d_Mo_isThere_78 : decode prog_7_method_23_code 78 = .ok (.goto (-72), 3) := by decide +kernel
theorem d_Mo_isThere_81 : decode prog_7_method_23_code 81 = .ok (.iload 4, 2) := by decide +kernel
theorem d_Mo_isThere_83 : decode prog_7_method_23_code 83 = .ok (.ireturn, 1) := by decide +kernel
theorem d_Mo_turn_0 : decode prog_7_method_22_code 0 = .ok (.iconst 0, 1) := by decide +kernel
theorem d_Mo_turn_1 : decode prog_7_method_22_code 1 = .ok (.istore_n 2, 1) := by decide +kernel
theorem d_Mo_turn_2 : decode prog_7_method_22_code 2 = .ok (.iconst 0, 1) := by decide +kernel
theorem d_Mo_turn_3 : decode prog_7_method_22_code 3 = .ok (.istore_n 3, 1) := by decide +kernel
theorem d_Mo_turn_4 : decode prog_7_method_22_code 4 = .ok (.iload_n 3, 1) := by decide +kernel
theorem d_Mo_turn_5 : decode prog_7_method_22_code 5 = .ok (.aload_n 0, 1) := by decide +kernel
theorem d_Mo_turn_6 : decode prog_7_method_22_code 6 = .ok (.invokevirtual 102, 3) := by decide +kernel
theorem d_Mo_turn_9 : decode prog_7_method_22_code 9 = .ok (.if_icmp .ge 117, 3) := by decide +kernel
theorem d_Mo_turn_12 : decode prog_7_method_22_code 12 = .ok (.aload_n 0, 1) := by decide +kernel
theorem d_Mo_turn_13 : decode prog_7_method_22_code 13 = .ok (.getfield 54, 3) := by decide +kernel
theorem d_Mo_turn_16 : decode prog_7_method_22_code 16 = .ok (.iload_n 3, 1) := by decide +kernel
theorem d_Mo_turn_17 : decode prog_7_method_22_code 17 = .ok (.iaload, 1) := by decide +kernel
theorem d_Mo_turn_18 : decode prog_7_method_22_code 18 = .ok (.ifCond .eq 6, 3) := by decide +kernel
theorem d_Mo_turn_21 : decode prog_7_method_22_code 21 = .ok (.goto 99, 3) := by decide +kernel
theorem d_Mo_turn_24 : decode prog_7_method_22_code 24 = .ok (.iconst 1, 1) := by decide +kernel
theorem d_Mo_turn_25 : decode prog_7_method_22_code 25 = .ok (.istore 4, 2) := by decide +kernel
theorem d_Mo_turn_27 : decode prog_7_method_22_code 27 = .ok (.iconst 0, 1) := by decide +kernel
theorem d_Mo_turn_28 : decode prog_7_method_22_code 28 = .ok (.istore 5, 2) := by decide +kernel
theorem d_Mo_turn_30 : decode prog_7_method_22_code 30 = .ok (.iload 5, 2) := by decide +kernel
theorem d_Mo_turn_32 : decode prog_7_method_22_code 32 = .ok (.aload_n 0, 1) := by decide +kernel
theorem d_Mo_turn_33 : decode prog_7_method_22_code 33 = .ok (.getfield 74, 3) := by decide +kernel
theorem d_Mo_turn_36 : decode prog_7_method_22_code 36 = .ok (.if_icmp .ge 67, 3) := by decide +kernel
theorem d_Mo_turn_39 : decode prog_7_method_22_code 39 = .ok (.iload 4, 2) := by decide +kernel
theorem d_Mo_turn_41 : decode prog_7_method_22_code 41 = .ok (.ifCond .eq 62, 3) := by decide +kernel
theorem d_Mo_turn_44 : decode prog_7_method_22_code 44 = .ok (.aload_n 0, 1) := by decide +kernel
theorem d_Mo_turn_45 : decode prog_7_method_22_code 45 = .ok (.getfield 7, 3) := by decide +kernel
theorem d_Mo_turn_48 : decode prog_7_method_22_code 48 = .ok (.aload_n 0, 1) := by decide +kernel
theorem d_Mo_turn_49 : decode prog_7_method_22_code 49 = .ok (.getfield 19, 3) := by decide +kernel
theorem d_Mo_turn_52 : decode prog_7_method_22_code 52 = .ok (.iload 5, 2) := by decide +kernel
theorem d_Mo_turn_54 : decode prog_7_method_22_code 54 = .ok (.iaload, 1) := by decide +kernel
theorem d_Mo_turn_55 : decode prog_7_method_22_code 55 = .ok (.iaload, 1) := by decide +kernel
theorem d_Mo_turn_56 : decode prog_7_method_22_code 56 = .ok (.bipush 6, 2) := by decide +kernel
theorem d_Mo_turn_58 : decode prog_7_method_22_code 58 = .ok (.if_icmp .ne 39, 3) := by decide +kernel
theorem d_Mo_turn_61 : decode prog_7_method_22_code 61 = .ok (.iload_n 3, 1) := by decide +kernel
theorem d_Mo_turn_62 : decode prog_7_method_22_code 62 = .ok (.iload 5, 2) := by decide +kernel
theorem d_Mo_turn_64 : decode prog_7_method_22_code 64 = .ok (.ishr, 1) := by decide +kernel
theorem d_Mo_turn_65 : decode prog_7_method_22_code 65 = .ok (.iconst 1, 1) := by decide +kernel
theorem d_Mo_turn_66 : decode prog_7_method_22_code 66 = .ok (.iand, 1) := by decide +kernel
theorem d_Mo_turn_67 : decode prog_7_method_22_code 67 = .ok (.iconst 1, 1) := by decide +kernel
theorem d_Mo_turn_68 : decode prog_7_method_22_code 68 = .ok (.if_icmp .ne 29, 3) := by decide +kernel
theorem d_Mo_turn_71 : decode prog_7_method_22_code 71 = .ok (.aload_n 0, 1) := by decide +kernel
theorem d_Mo_turn_72 : decode prog_7_method_22_code 72 = .ok (.aload_n 0, 1) := by decide +kernel
theorem d_Mo_turn_73 : decode prog_7_method_22_code 73 = .ok (.iload_n 3, 1) := by decide +kernel
theorem d_Mo_turn_74 : decode prog_7_method_22_code 74 = .ok (.aload_n 0, 1) := by decide +kernel
theorem d_Mo_turn_75 : decode prog_7_method_22_code 75 = .ok (.getfield 13, 3) := by decide +kernel
theorem d_Mo_turn_78 : decode prog_7_method_22_code 78 = .ok (.aload_n 0, 1) := by decide +kernel
theorem d_Mo_turn_79 : decode prog_7_method_22_code 79 = .ok (.getfield 19, 3) := by decide +kernel
theorem d_Mo_turn_82 : decode prog_7_method_22_code 82 = .ok (.iload 5, 2) := by decide +kernel
theorem d_Mo_turn_84 : decode prog_7_method_22_code 84 = .ok (.iaload, 1) := by decide +kernel
theorem d_Mo_turn_85 : decode prog_7_method_22_code 85 = .ok (.iaload, 1) := by decide +kernel
theorem d_Mo_turn_86 : decode prog_7_method_22_code 86 = .ok (.invokevirtual 115, 3) := by decide +kernel
theorem d_Mo_turn_89 : decode prog_7_method_22_code 89 = .ok (.iload 5, 2) := by decide +kernel
theorem d_Mo_turn_91 : decode prog_7_method_22_code 91 = .ok (.iload_n 1, 1) := by decide +kernel
theorem d_Mo_turn_92 : decode prog_7_method_22_code 92 = .ok (.invokevirtual 119, 3) := by decide +kernel
theorem d_Mo_turn_95 : decode prog_7_method_22_code 95 = .ok (.istore 4, 2) := by decide +kernel
theorem d_Mo_turn_97 : decode prog_7_method_22_code 97 = .ok (.iinc 5 1, 3) := by decide +kernel
theorem d_Mo_turn_100 : decode prog_7_method_22_code 100 = .ok (.goto (-70), 3) := by decide +kernel
theorem d_Mo_turn_103 : decode prog_7_method_22_code 103 = .ok (.iload 4, 2) := by decide +kernel
theorem d_Mo_turn_105 : decode prog_7_method_22_code 105 = .ok (.ifCond .eq 6, 3) := by decide +kernel
theorem d_Mo_turn_108 : decode prog_7_method_22_code 108 = .ok (.goto 12, 3) := by decide +kernel
theorem d_Mo_turn_111 : decode prog_7_method_22_code 111 = .ok (.aload_n 0, 1) := by decide +kernel
theorem d_Mo_turn_112 : decode prog_7_method_22_code 112 = .ok (.getfield 54, 3) := by decide +kernel
theorem d_Mo_turn_115 : decode prog_7_method_22_code 115 = .ok (.iload_n 3, 1) := by decide +kernel
theorem d_Mo_turn_116 : decode prog_7_method_22_code 116 = .ok (.iload_n 1, 1) := by decide +kernel
theorem d_Mo_turn_117 : decode prog_7_method_22_code 117 = .ok (.iastore, 1) := by decide +kernel
theorem d_Mo_turn_118 : decode prog_7_method_22_code 118 = .ok (.iconst 1, 1) := by decide +kernel
theorem d_Mo_turn_119 : decode prog_7_method_22_code 119 = .ok (.istore_n 2, 1) := by decide +kernel
theorem d_Mo_turn_120 : decode prog_7_method_22_code 120 = .ok (.iinc 3 1, 3) := by decide +kernel
theorem d_Mo_turn_123 : decode prog_7_method_22_code 123 = .ok (.goto (-119), 3) := by decide +kernel
theorem d_Mo_turn_126 : decode prog_7_method_22_code 126 = .ok (.iload_n 2, 1) := by decide +kernel
theorem d_Mo_turn_127 : decode prog_7_method_22_code 127 = .ok (.ireturn, 1) := by decide +kernel
noncomputable def bk_Mo_size_0 : List Int32 → List Int64 → tq_S → Option tq_C
  | [], [], σ => some (tq_rt, [(1 <<< ((σ.2.2 14) &&& 31))], [], σ)
  | _, _, _ => none
noncomputable def st_Mo_size (c : tq_C) : Option tq_C := if c.1 = 0 then bk_Mo_size_0 c.2.1 c.2.2.1 c.2.2.2 else none
set_option maxHeartbeats 40000000 in
set_option maxRecDepth 100000 in
theorem c_Mo_size (l : Launch) (dC : Nat → ClassId) (dI : Nat → Nat → Nat) (cI cL cZ : ClassId) (ad : Nat → Nat) (tt : Nat) (sz : Nat) (σ : tq_S) (r : Int32) (σ' : tq_S) (hf : tq_fI st_Mo_size (0, [], [], σ) = some (r, σ')) : Met l y_Mo_size w_Mo_size ({ frames := 0, cells := 0, slots := 0, locals := 0 } : Room) (va_Pc [.ref (ad 5)] (tq_B dC dI cI cL cZ tt (wo cI cL cZ ad σ) sz)) (va_Qi (fun (r' : Int32) (u : tq_S) => r' = r ∧ u = σ') (tq_E dC dI cI cL cZ (wo cI cL cZ ad) (va_A (wo cI cL cZ ad σ) sz)) (va_A (wo cI cL cZ ad σ) sz)) 0 0 (va_A (wo cI cL cZ ad σ) sz) := by
  obtain ⟨n0, h0⟩ := tq_fI_to hf
  refine Met.ofW (cc := prog_7_method_15_code) (maxL := 1) (ret := (some .int)) (by decide) rfl ?_
  intro p e s m args below meth c s₁ B hml hv
  obtain ⟨rfl, hsz, hP, hK, hD0, hZ, hN⟩ := hv
  have hx := B.exec
  have hb := B.bytes
  have hr := B.returns
  have hts : ∀ w ∈ tq_T, w.before _ s = true := fun w h => atoms_spec (ws := w_Mo_size) B.pre w (List.mem_cons_of_mem _ h)
  have hown : s.vm.findClass "TableauNodesModel" = some m.cls := findClass_of_methodNamed B.named
  have hlocks := B.notSynchronized
  subst hsz
  have hD := hD0.self (sz := s.heap.size)
  have hS : va_S (va_A (wo cI cL cZ ad σ) s.heap.size) s.heap s.heap [] := va_S.rf
  have hA : ∀ q : Nat, s.heap.size ≤ q → va_A (wo cI cL cZ ad σ) s.heap.size q := fun q h => Or.inr h
  generalize va_A (wo cI cL cZ ad σ) s.heap.size = A at hD hS hA hZ ⊢
  have hl := lv_entry ([.ref (ad 5)]) (n := 1) (Nat.le_of_ble_eq_true rfl)
  rw [lg_entry_eq]
  generalize (lg_sl ([.ref (ad 5)]) ++ List.replicate (1 - (lg_sl ([.ref (ad 5)])).length) Slot.unset).toArray = ls at hl ⊢
  have hl : lv_has ls 1 [(0, .ref (ad 5))] := hl
  have key : ∀ n : Nat, (∀ {σ : tq_S} {H : Heap} {locs : List Loc} {ls : Array Slot}, va_P (dC, dI) tq_cl (wo cI cL cZ ad σ) H → va_D A (wo cI cL cZ ad σ) → va_S A s.heap H locs → lv_has ls 1 [(0, .ref (ad 5))] → tq_go st_Mo_size n (0, [], [], σ) = some (tq_rt, [r], [], σ') → W p l e (headSpec w_Mo_size ({ frames := 0, cells := 0, slots := 0, locals := 0 } : Room)).room s m ([.ref (ad 5)] : List Value).toArray below meth c H locs 0 0 (MQ below (va_Qi (fun (r' : Int32) (u : tq_S) => r' = r ∧ u = σ') (tq_E dC dI cI cL cZ (wo cI cL cZ ad) A) A) ([.ref (ad 5)] : List Value).toArray s 0 0 A) (F0 m 0 ls [])) := by
    intro n
    induction n with
    | zero => exact fun _ _ _ _ h => by cases h
    | succ n ih =>
      intro  σ H locs ls hP hD hS hl h9
      obtain ⟨q9, hg, hn⟩ := tq_go_s h9 (show ¬ (0 : Nat) = tq_rt by decide)
      replace hg : bk_Mo_size_0 [] [] σ = some q9 := hg
      unfold bk_Mo_size_0 at hg
      refine lv_iconst (v := 1) hx hb d_Mo_size_0 (by decide) ?_
      refine lv_aload_n hx hb d_Mo_size_1 rfl (lv_at hl 0 rfl) ?_
      refine va_get (D := (dC, dI)) (ci := 5) (v := .int (σ.2.2 14)) (C := "TableauNodesModel") (T := F_Mo) (N := 25) hx hb hts in_Mo hown hK hP 5 rfl rfl 5 (by decide) (hts _ tw_604) (fun _ h9 => h9) rfl d_Mo_size_2 ?_
      refine lv_ishl hx hb d_Mo_size_5 ?_
      exact W.iret (v := (1 <<< ((σ.2.2 14) &&& 31))) hx hb hr (fun t ht hW => ⟨⟨(1 <<< ((σ.2.2 14) &&& 31)), σ, rfl, tq_grI hg hn, by rw [ht]; exact hP, va_K.moved hW.alike hK, hD⟩, hS.F ht⟩) hS.2.2 d_Mo_size_6
  exact (key n0) hP hD hS hl h0
noncomputable def bk_Mo_atomOf_0 : List Int32 → List Int64 → tq_S → Option tq_C
  | [x1], [], σ => some (2, [x1, 0], [], σ)
  | _, _, _ => none
noncomputable def bk_Mo_atomOf_2 : List Int32 → List Int64 → tq_S → Option tq_C
  | [x1, x2], [], σ => tq_gd x2 10 (if (ia σ 20 x2) = x1 then some (tq_rt, [x2], [], σ) else tq_lj (x2 + 1) (fun v3 => some (2, [x1, v3], [], σ)))
  | _, _, _ => none
noncomputable def st_Mo_atomOf (c : tq_C) : Option tq_C := if c.1 = 0 then bk_Mo_atomOf_0 c.2.1 c.2.2.1 c.2.2.2 else if c.1 = 2 then bk_Mo_atomOf_2 c.2.1 c.2.2.1 c.2.2.2 else none
set_option maxHeartbeats 40000000 in
set_option maxRecDepth 100000 in
theorem c_Mo_atomOf (l : Launch) (dC : Nat → ClassId) (dI : Nat → Nat → Nat) (cI cL cZ : ClassId) (ad : Nat → Nat) (tt : Nat) (sz : Nat) (σ : tq_S) (a1 : Int32) (r : Int32) (σ' : tq_S) (hf : tq_fI st_Mo_atomOf (0, [a1], [], σ) = some (r, σ')) : Met l y_Mo_atomOf w_Mo_atomOf ({ frames := 0, cells := 0, slots := 0, locals := 0 } : Room) (va_Pc [.ref (ad 5), .int a1] (tq_B dC dI cI cL cZ tt (wo cI cL cZ ad σ) sz)) (va_Qi (fun (r' : Int32) (u : tq_S) => r' = r ∧ u = σ') (tq_E dC dI cI cL cZ (wo cI cL cZ ad) (va_A (wo cI cL cZ ad σ) sz)) (va_A (wo cI cL cZ ad σ) sz)) 0 0 (va_A (wo cI cL cZ ad σ) sz) := by
  obtain ⟨n0, h0⟩ := tq_fI_to hf
  refine Met.ofW (cc := prog_7_method_16_code) (maxL := 3) (ret := (some .int)) (by decide) rfl ?_
  intro p e s m args below meth c s₁ B hml hv
  obtain ⟨rfl, hsz, hP, hK, hD0, hZ, hN⟩ := hv
  have hx := B.exec
  have hb := B.bytes
  have hr := B.returns
  have hts : ∀ w ∈ tq_T, w.before _ s = true := fun w h => atoms_spec (ws := w_Mo_atomOf) B.pre w (List.mem_cons_of_mem _ h)
  have hown : s.vm.findClass "TableauNodesModel" = some m.cls := findClass_of_methodNamed B.named
  have hlocks := B.notSynchronized
  subst hsz
  have hD := hD0.self (sz := s.heap.size)
  have hS : va_S (va_A (wo cI cL cZ ad σ) s.heap.size) s.heap s.heap [] := va_S.rf
  have hA : ∀ q : Nat, s.heap.size ≤ q → va_A (wo cI cL cZ ad σ) s.heap.size q := fun q h => Or.inr h
  generalize va_A (wo cI cL cZ ad σ) s.heap.size = A at hD hS hA hZ ⊢
  have hl := lv_entry ([.ref (ad 5), .int a1]) (n := 3) (Nat.le_of_ble_eq_true rfl)
  rw [lg_entry_eq]
  generalize (lg_sl ([.ref (ad 5), .int a1]) ++ List.replicate (3 - (lg_sl ([.ref (ad 5), .int a1])).length) Slot.unset).toArray = ls at hl ⊢
  have hl : lv_has ls 3 [(0, .ref (ad 5)), (1, .int a1)] := hl
  have key : ∀ n : Nat, (∀ {x1 : Int32} {σ : tq_S} {H : Heap} {locs : List Loc} {ls : Array Slot}, va_P (dC, dI) tq_cl (wo cI cL cZ ad σ) H → va_D A (wo cI cL cZ ad σ) → va_S A s.heap H locs → lv_has ls 3 [(0, .ref (ad 5)), (1, .int x1)] → tq_go st_Mo_atomOf n (0, [x1], [], σ) = some (tq_rt, [r], [], σ') → W p l e (headSpec w_Mo_atomOf ({ frames := 0, cells := 0, slots := 0, locals := 0 } : Room)).room s m ([.ref (ad 5), .int a1] : List Value).toArray below meth c H locs 0 0 (MQ below (va_Qi (fun (r' : Int32) (u : tq_S) => r' = r ∧ u = σ') (tq_E dC dI cI cL cZ (wo cI cL cZ ad) A) A) ([.ref (ad 5), .int a1] : List Value).toArray s 0 0 A) (F0 m 0 ls [])) ∧ (∀ {x1 x2 : Int32} {σ : tq_S} {H : Heap} {locs : List Loc} {ls : Array Slot}, va_P (dC, dI) tq_cl (wo cI cL cZ ad σ) H → va_D A (wo cI cL cZ ad σ) → va_S A s.heap H locs → lv_has ls 3 [(0, .ref (ad 5)), (1, .int x1), (2, .int x2)] → tq_go st_Mo_atomOf n (2, [x1, x2], [], σ) = some (tq_rt, [r], [], σ') → W p l e (headSpec w_Mo_atomOf ({ frames := 0, cells := 0, slots := 0, locals := 0 } : Room)).room s m ([.ref (ad 5), .int a1] : List Value).toArray below meth c H locs 0 0 (MQ below (va_Qi (fun (r' : Int32) (u : tq_S) => r' = r ∧ u = σ') (tq_E dC dI cI cL cZ (wo cI cL cZ ad) A) A) ([.ref (ad 5), .int a1] : List Value).toArray s 0 0 A) (F0 m 2 ls [])) := by
    intro n
    induction n with
    | zero => exact ⟨(fun _ _ _ _ h => by cases h), (fun _ _ _ _ h => by cases h)⟩
    | succ n ih =>
      refine ⟨?_, ?_⟩
      · intro x1 σ H locs ls hP hD hS hl h9
        obtain ⟨q9, hg, hn⟩ := tq_go_s h9 (show ¬ (0 : Nat) = tq_rt by decide)
        replace hg : bk_Mo_atomOf_0 [x1] [] σ = some q9 := hg
        unfold bk_Mo_atomOf_0 at hg
        refine lv_iconst (v := 0) hx hb d_Mo_atomOf_0 (by decide) ?_
        refine lv_istore_n (lv' := [(2, .int 0), (0, .ref (ad 5)), (1, .int x1)]) hx hb d_Mo_atomOf_1 rfl hl (by decide) rfl (fun ls hl => ?_)
        exact ih.2 hP hD hS (lv_sub hl [1, 2, 0] rfl) (tq_gi hg hn)
      · intro x1 x2 σ H locs ls hP hD hS hl h9
        obtain ⟨q9, hg, hn⟩ := tq_go_s h9 (show ¬ (2 : Nat) = tq_rt by decide)
        replace hg : bk_Mo_atomOf_2 [x1, x2] [] σ = some q9 := hg
        unfold bk_Mo_atomOf_2 at hg
        refine lv_aload_n hx hb d_Mo_atomOf_2 rfl (lv_at hl 0 rfl) ?_
        refine va_get (D := (dC, dI)) (ci := 5) (v := .ref (ad 33)) (C := "TableauNodesModel") (T := F_Mo) (N := 25) hx hb hts in_Mo hown hK hP 5 rfl rfl 4 (by decide) (hts _ tw_603) (fun _ h9 => h9) rfl d_Mo_atomOf_3 ?_
        refine lv_iload_n hx hb d_Mo_atomOf_6 rfl (lv_at hl 2 rfl) ?_
        obtain ⟨g1, hg⟩ := tq_gd_s hg
        refine va_iald hx hb hK hP 33 0 rfl rfl g1 d_Mo_atomOf_7 ?_
        refine lv_iload_n hx hb d_Mo_atomOf_8 rfl (lv_at hl 1 rfl) ?_
        refine lv_icmp_eq (tgt := 18) hx hb d_Mo_atomOf_9 (by decide) (fun c2 => ?_) (fun c2 => ?_)
        · replace hg := tq_if_t c2 hg
          refine lv_iload_n hx hb d_Mo_atomOf_18 rfl (lv_at hl 2 rfl) ?_
          exact W.iret (v := x2) hx hb hr (fun t ht hW => ⟨⟨x2, σ, rfl, tq_grI hg hn, by rw [ht]; exact hP, va_K.moved hW.alike hK, hD⟩, hS.F ht⟩) hS.2.2 d_Mo_atomOf_19
        · replace hg := tq_if_f c2 hg
          obtain ⟨v3, ev3, hg⟩ := tq_lj_s hg
          refine lv_iinc (v := v3) (lv' := [(2, .int v3), (0, .ref (ad 5)), (1, .int x1)]) hx hb d_Mo_atomOf_12 hl (k := 2) rfl (by rw [ev3]; rfl) (by decide) rfl (fun ls hl => ?_)
          refine lv_goto (tgt := 2) hx hb d_Mo_atomOf_15 (by decide) ?_
          exact ih.2 hP hD hS (lv_sub hl [1, 2, 0] rfl) (tq_gi hg hn)
  exact (key n0).1 hP hD hS hl h0
noncomputable def bk_Mo_isHeld_0 : List Int32 → List Int64 → tq_S → Option tq_C
  | [x1, x2], [], σ => tq_gd ((80 * x1) + x2) 81920 (tq_gb (ia σ 29 ((80 * x1) + x2)) (some (tq_rt, [(ia σ 29 ((80 * x1) + x2))], [], σ)))
  | _, _, _ => none
noncomputable def st_Mo_isHeld (c : tq_C) : Option tq_C := if c.1 = 0 then bk_Mo_isHeld_0 c.2.1 c.2.2.1 c.2.2.2 else none
set_option maxHeartbeats 40000000 in
set_option maxRecDepth 100000 in
theorem c_Mo_isHeld (l : Launch) (dC : Nat → ClassId) (dI : Nat → Nat → Nat) (cI cL cZ : ClassId) (ad : Nat → Nat) (tt : Nat) (sz : Nat) (σ : tq_S) (a1 : Int32) (a2 : Int32) (r : Int32) (σ' : tq_S) (hf : tq_fI st_Mo_isHeld (0, [a1, a2], [], σ) = some (r, σ')) : Met l y_Mo_isHeld w_Mo_isHeld ({ frames := 0, cells := 0, slots := 0, locals := 0 } : Room) (va_Pc [.ref (ad 5), .int a1, .int a2] (tq_B dC dI cI cL cZ tt (wo cI cL cZ ad σ) sz)) (va_Qi (fun (r' : Int32) (u : tq_S) => r' = r ∧ u = σ') (tq_E dC dI cI cL cZ (wo cI cL cZ ad) (va_A (wo cI cL cZ ad σ) sz)) (va_A (wo cI cL cZ ad σ) sz)) 0 0 (va_A (wo cI cL cZ ad σ) sz) := by
  obtain ⟨n0, h0⟩ := tq_fI_to hf
  refine Met.ofW (cc := prog_7_method_17_code) (maxL := 3) (ret := (some .boolean)) (by decide) rfl ?_
  intro p e s m args below meth c s₁ B hml hv
  obtain ⟨rfl, hsz, hP, hK, hD0, hZ, hN⟩ := hv
  have hx := B.exec
  have hb := B.bytes
  have hr := B.returns
  have hts : ∀ w ∈ tq_T, w.before _ s = true := fun w h => atoms_spec (ws := w_Mo_isHeld) B.pre w (List.mem_cons_of_mem _ h)
  have hown : s.vm.findClass "TableauNodesModel" = some m.cls := findClass_of_methodNamed B.named
  have hlocks := B.notSynchronized
  subst hsz
  have hD := hD0.self (sz := s.heap.size)
  have hS : va_S (va_A (wo cI cL cZ ad σ) s.heap.size) s.heap s.heap [] := va_S.rf
  have hA : ∀ q : Nat, s.heap.size ≤ q → va_A (wo cI cL cZ ad σ) s.heap.size q := fun q h => Or.inr h
  generalize va_A (wo cI cL cZ ad σ) s.heap.size = A at hD hS hA hZ ⊢
  have hl := lv_entry ([.ref (ad 5), .int a1, .int a2]) (n := 3) (Nat.le_of_ble_eq_true rfl)
  rw [lg_entry_eq]
  generalize (lg_sl ([.ref (ad 5), .int a1, .int a2]) ++ List.replicate (3 - (lg_sl ([.ref (ad 5), .int a1, .int a2])).length) Slot.unset).toArray = ls at hl ⊢
  have hl : lv_has ls 3 [(0, .ref (ad 5)), (1, .int a1), (2, .int a2)] := hl
  have key : ∀ n : Nat, (∀ {x1 x2 : Int32} {σ : tq_S} {H : Heap} {locs : List Loc} {ls : Array Slot}, va_P (dC, dI) tq_cl (wo cI cL cZ ad σ) H → va_D A (wo cI cL cZ ad σ) → va_S A s.heap H locs → lv_has ls 3 [(0, .ref (ad 5)), (1, .int x1), (2, .int x2)] → tq_go st_Mo_isHeld n (0, [x1, x2], [], σ) = some (tq_rt, [r], [], σ') → W p l e (headSpec w_Mo_isHeld ({ frames := 0, cells := 0, slots := 0, locals := 0 } : Room)).room s m ([.ref (ad 5), .int a1, .int a2] : List Value).toArray below meth c H locs 0 0 (MQ below (va_Qi (fun (r' : Int32) (u : tq_S) => r' = r ∧ u = σ') (tq_E dC dI cI cL cZ (wo cI cL cZ ad) A) A) ([.ref (ad 5), .int a1, .int a2] : List Value).toArray s 0 0 A) (F0 m 0 ls [])) := by
    intro n
    induction n with
    | zero => exact fun _ _ _ _ h => by cases h
    | succ n ih =>
      intro x1 x2 σ H locs ls hP hD hS hl h9
      obtain ⟨q9, hg, hn⟩ := tq_go_s h9 (show ¬ (0 : Nat) = tq_rt by decide)
      replace hg : bk_Mo_isHeld_0 [x1, x2] [] σ = some q9 := hg
      unfold bk_Mo_isHeld_0 at hg
      refine lv_aload_n hx hb d_Mo_isHeld_0 rfl (lv_at hl 0 rfl) ?_
      refine va_get (D := (dC, dI)) (ci := 5) (v := .ref (ad 42)) (C := "TableauNodesModel") (T := F_Mo) (N := 25) hx hb hts in_Mo hown hK hP 5 rfl rfl 18 (by decide) (hts _ tw_617) (fun _ h9 => h9) rfl d_Mo_isHeld_1 ?_
      refine lv_bipush (v := 80) hx hb d_Mo_isHeld_4 (by decide) ?_
      refine lv_iload_n hx hb d_Mo_isHeld_6 rfl (lv_at hl 1 rfl) ?_
      refine lv_imul hx hb d_Mo_isHeld_7 ?_
      refine lv_iload_n hx hb d_Mo_isHeld_8 rfl (lv_at hl 2 rfl) ?_
      refine lv_iadd hx hb d_Mo_isHeld_9 ?_
      obtain ⟨g1, hg⟩ := tq_gd_s hg
      refine va_zald hx hb hK hP 42 2 rfl rfl g1 d_Mo_isHeld_10 ?_
      obtain ⟨b2, hg⟩ := tq_gb_s hg
      exact W.zret (v := (ia σ 29 ((80 * x1) + x2))) hx hb hr (tq_nb b2) (fun t ht hW => ⟨⟨(ia σ 29 ((80 * x1) + x2)), σ, rfl, tq_grI hg hn, by rw [ht]; exact hP, va_K.moved hW.alike hK, hD⟩, hS.F ht⟩) hS.2.2 d_Mo_isHeld_11
  exact (key n0) hP hD hS hl h0
noncomputable def bk_Mo_weigh_0 : List Int32 → List Int64 → tq_S → Option tq_C
  | [x1, x2], [], σ => tq_gd x2 80 (tq_lj (ia σ 18 x2) (fun v2 => tq_gd x2 80 (tq_lj (ia σ 19 x2) (fun v4 => tq_gd x2 80 (tq_lj (ia σ 17 x2) (fun v6 => if v6 = 0 then some (tq_rt, [1], [], σ) else if v6 = 1 then some (tq_rt, [0], [], σ) else if v6 = 2 then tq_ob (tq_fI st_Mo_atomOf (0, [x2], [], σ)) (fun r8 σ9 => if ¬ ((x1 >>> (r8 &&& 31)) &&& 1) = 1 then some (tq_rt, [0], [], σ9) else some (tq_rt, [1], [], σ9)) else if v6 = 3 then tq_ob (tq_fI st_Mo_isHeld (0, [x1, v2], [], σ)) (fun r12 σ13 => if ¬ r12 = 0 then some (tq_rt, [0], [], σ13) else some (tq_rt, [1], [], σ13)) else if v6 = 4 then tq_ob (tq_fI st_Mo_isHeld (0, [x1, v2], [], σ)) (fun r16 σ17 => if r16 = 0 then some (tq_rt, [0], [], σ17) else tq_ob (tq_fI st_Mo_isHeld (0, [x1, v4], [], σ17)) (fun r20 σ21 => if r20 = 0 then some (tq_rt, [0], [], σ21) else some (tq_rt, [1], [], σ21))) else if v6 = 5 then tq_ob (tq_fI st_Mo_isHeld (0, [x1, v2], [], σ)) (fun r24 σ25 => if ¬ r24 = 0 then some (tq_rt, [1], [], σ25) else tq_ob (tq_fI st_Mo_isHeld (0, [x1, v4], [], σ25)) (fun r28 σ29 => if r28 = 0 then some (tq_rt, [0], [], σ29) else some (tq_rt, [1], [], σ29))) else if v6 = 6 then tq_ob (tq_fI st_Mo_atomOf (0, [x2], [], σ)) (fun r32 σ33 => if ¬ ((x1 >>> (r32 &&& 31)) &&& 1) = 1 then some (tq_rt, [0], [], σ33) else some (tq_rt, [1], [], σ33)) else if v6 = 7 then tq_ob (tq_fI st_Mo_find (0, [3, v4, 0], [], σ)) (fun r36 σ37 => tq_ob (tq_fI st_Mo_find (0, [6, v2, r36], [], σ37)) (fun r39 σ40 => tq_ob (tq_fI st_Mo_isHeld (0, [x1, r39], [], σ40)) (fun r42 σ43 => if ¬ r42 = 0 then some (tq_rt, [0], [], σ43) else some (tq_rt, [1], [], σ43)))) else some (tq_rt, [0], [], σ)))))))
  | _, _, _ => none
noncomputable def st_Mo_weigh (c : tq_C) : Option tq_C := if c.1 = 0 then bk_Mo_weigh_0 c.2.1 c.2.2.1 c.2.2.2 else none
set_option maxHeartbeats 40000000 in
set_option maxRecDepth 100000 in
theorem c_Mo_weigh (l : Launch) (dC : Nat → ClassId) (dI : Nat → Nat → Nat) (cI cL cZ : ClassId) (ad : Nat → Nat) (tt : Nat) (sz : Nat) (σ : tq_S) (a1 : Int32) (a2 : Int32) (r : Int32) (σ' : tq_S) (hf : tq_fI st_Mo_weigh (0, [a1, a2], [], σ) = some (r, σ')) : Met l y_Mo_weigh w_Mo_weigh ({ frames := 1, cells := 0, slots := 0, locals := 24 } : Room) (va_Pc [.ref (ad 5), .int a1, .int a2] (tq_B dC dI cI cL cZ tt (wo cI cL cZ ad σ) sz)) (va_Qi (fun (r' : Int32) (u : tq_S) => r' = r ∧ u = σ') (tq_E dC dI cI cL cZ (wo cI cL cZ ad) (va_A (wo cI cL cZ ad σ) sz)) (va_A (wo cI cL cZ ad σ) sz)) 0 0 (va_A (wo cI cL cZ ad σ) sz) := by
  obtain ⟨n0, h0⟩ := tq_fI_to hf
  refine Met.ofW (cc := prog_7_method_18_code) (maxL := 5) (ret := (some .boolean)) (by decide) rfl ?_
  intro p e s m args below meth c s₁ B hml hv
  obtain ⟨rfl, hsz, hP, hK, hD0, hZ, hN⟩ := hv
  have hx := B.exec
  have hb := B.bytes
  have hr := B.returns
  have hts : ∀ w ∈ tq_T, w.before _ s = true := fun w h => atoms_spec (ws := w_Mo_weigh) B.pre w (List.mem_cons_of_mem _ h)
  have hown : s.vm.findClass "TableauNodesModel" = some m.cls := findClass_of_methodNamed B.named
  have hlocks := B.notSynchronized
  subst hsz
  have hD := hD0.self (sz := s.heap.size)
  have hS : va_S (va_A (wo cI cL cZ ad σ) s.heap.size) s.heap s.heap [] := va_S.rf
  have hA : ∀ q : Nat, s.heap.size ≤ q → va_A (wo cI cL cZ ad σ) s.heap.size q := fun q h => Or.inr h
  generalize va_A (wo cI cL cZ ad σ) s.heap.size = A at hD hS hA hZ ⊢
  have hl := lv_entry ([.ref (ad 5), .int a1, .int a2]) (n := 5) (Nat.le_of_ble_eq_true rfl)
  rw [lg_entry_eq]
  generalize (lg_sl ([.ref (ad 5), .int a1, .int a2]) ++ List.replicate (5 - (lg_sl ([.ref (ad 5), .int a1, .int a2])).length) Slot.unset).toArray = ls at hl ⊢
  have hl : lv_has ls 5 [(0, .ref (ad 5)), (1, .int a1), (2, .int a2)] := hl
  have key : ∀ n : Nat, (∀ {x1 x2 : Int32} {σ : tq_S} {H : Heap} {locs : List Loc} {ls : Array Slot}, va_P (dC, dI) tq_cl (wo cI cL cZ ad σ) H → va_D A (wo cI cL cZ ad σ) → va_S A s.heap H locs → lv_has ls 5 [(0, .ref (ad 5)), (1, .int x1), (2, .int x2)] → tq_go st_Mo_weigh n (0, [x1, x2], [], σ) = some (tq_rt, [r], [], σ') → W p l e (headSpec w_Mo_weigh ({ frames := 1, cells := 0, slots := 0, locals := 24 } : Room)).room s m ([.ref (ad 5), .int a1, .int a2] : List Value).toArray below meth c H locs 0 0 (MQ below (va_Qi (fun (r' : Int32) (u : tq_S) => r' = r ∧ u = σ') (tq_E dC dI cI cL cZ (wo cI cL cZ ad) A) A) ([.ref (ad 5), .int a1, .int a2] : List Value).toArray s 0 0 A) (F0 m 0 ls [])) := by
    intro n
    induction n with
    | zero => exact fun _ _ _ _ h => by cases h
    | succ n ih =>
      intro x1 x2 σ H locs ls hP hD hS hl h9
      obtain ⟨q9, hg, hn⟩ := tq_go_s h9 (show ¬ (0 : Nat) = tq_rt by decide)
      replace hg : bk_Mo_weigh_0 [x1, x2] [] σ = some q9 := hg
      unfold bk_Mo_weigh_0 at hg
      refine lv_aload_n hx hb d_Mo_weigh_0 rfl (lv_at hl 0 rfl) ?_
      refine va_get (D := (dC, dI)) (ci := 5) (v := .ref (ad 31)) (C := "TableauNodesModel") (T := F_Mo) (N := 25) hx hb hts in_Mo hown hK hP 5 rfl rfl 1 (by decide) (hts _ tw_600) (fun _ h9 => h9) rfl d_Mo_weigh_1 ?_
      refine lv_iload_n hx hb d_Mo_weigh_4 rfl (lv_at hl 2 rfl) ?_
      obtain ⟨g1, hg⟩ := tq_gd_s hg
      refine va_iald hx hb hK hP 31 0 rfl rfl g1 d_Mo_weigh_5 ?_
      obtain ⟨v2, ev2, hg⟩ := tq_lj_s hg
      refine tq_nmi ev2 ?_
      refine lv_istore_n (lv' := [(3, .int v2), (0, .ref (ad 5)), (1, .int x1), (2, .int x2)]) hx hb d_Mo_weigh_6 rfl hl (by decide) rfl (fun ls hl => ?_)
      refine lv_aload_n hx hb d_Mo_weigh_7 rfl (lv_at hl 1 rfl) ?_
      refine va_get (D := (dC, dI)) (ci := 5) (v := .ref (ad 32)) (C := "TableauNodesModel") (T := F_Mo) (N := 25) hx hb hts in_Mo hown hK hP 5 rfl rfl 2 (by decide) (hts _ tw_601) (fun _ h9 => h9) rfl d_Mo_weigh_8 ?_
      refine lv_iload_n hx hb d_Mo_weigh_11 rfl (lv_at hl 3 rfl) ?_
      obtain ⟨g3, hg⟩ := tq_gd_s hg
      refine va_iald hx hb hK hP 32 0 rfl rfl g3 d_Mo_weigh_12 ?_
      obtain ⟨v4, ev4, hg⟩ := tq_lj_s hg
      refine tq_nmi ev4 ?_
      refine lv_istore (lv' := [(4, .int v4), (3, .int v2), (0, .ref (ad 5)), (1, .int x1), (2, .int x2)]) hx hb d_Mo_weigh_13 hl (by decide) rfl (fun ls hl => ?_)
      refine lv_aload_n hx hb d_Mo_weigh_15 rfl (lv_at hl 2 rfl) ?_
      refine va_get (D := (dC, dI)) (ci := 5) (v := .ref (ad 30)) (C := "TableauNodesModel") (T := F_Mo) (N := 25) hx hb hts in_Mo hown hK hP 5 rfl rfl 0 (by decide) (hts _ tw_599) (fun _ h9 => h9) rfl d_Mo_weigh_16 ?_
      refine lv_iload_n hx hb d_Mo_weigh_19 rfl (lv_at hl 4 rfl) ?_
      obtain ⟨g5, hg⟩ := tq_gd_s hg
      refine va_iald hx hb hK hP 30 0 rfl rfl g5 d_Mo_weigh_20 ?_
      obtain ⟨v6, ev6, hg⟩ := tq_lj_s hg
      refine tq_nmi ev6 ?_
      by_cases w45_0 : v6 = 0
      · replace hg := tq_if_t w45_0 hg
        refine lv_tableIn (tgt := 68) hx hb d_Mo_weigh_21 (by rw [w45_0]; decide) (by rw [w45_0]; decide) (by rw [w45_0]; rfl) (by decide) ?_
        refine lv_iconst (v := 1) hx hb d_Mo_weigh_68 (by decide) ?_
        exact W.zret (v := 1) hx hb hr rfl (fun t ht hW => ⟨⟨1, σ, rfl, tq_grI hg hn, by rw [ht]; exact hP, va_K.moved hW.alike hK, hD⟩, hS.F ht⟩) hS.2.2 d_Mo_weigh_69
      replace hg := tq_if_f w45_0 hg
      by_cases w45_1 : v6 = 1
      · replace hg := tq_if_t w45_1 hg
        refine lv_tableIn (tgt := 183) hx hb d_Mo_weigh_21 (by rw [w45_1]; decide) (by rw [w45_1]; decide) (by rw [w45_1]; rfl) (by decide) ?_
        refine lv_iconst (v := 0) hx hb d_Mo_weigh_183 (by decide) ?_
        exact W.zret (v := 0) hx hb hr rfl (fun t ht hW => ⟨⟨0, σ, rfl, tq_grI hg hn, by rw [ht]; exact hP, va_K.moved hW.alike hK, hD⟩, hS.F ht⟩) hS.2.2 d_Mo_weigh_184
      replace hg := tq_if_f w45_1 hg
      by_cases w45_2 : v6 = 2
      · replace hg := tq_if_t w45_2 hg
        refine lv_tableIn (tgt := 70) hx hb d_Mo_weigh_21 (by rw [w45_2]; decide) (by rw [w45_2]; decide) (by rw [w45_2]; rfl) (by decide) ?_
        refine lv_iload_n hx hb d_Mo_weigh_70 rfl (lv_at hl 3 rfl) ?_
        refine lv_aload_n hx hb d_Mo_weigh_71 rfl (lv_at hl 2 rfl) ?_
        refine lv_iload_n hx hb d_Mo_weigh_72 rfl (lv_at hl 4 rfl) ?_
        obtain ⟨r8, σ9, f7, hg⟩ := tq_ob_s hg
        refine tq_aI (va_runV (As := [.int x2]) (rest := [.int x1]) ⟨hx, hb, hml, hown, hts⟩ (c_Mo_atomOf l dC dI cI cL cZ ad tt H.size σ x2  r8 σ9 f7) (cwV 1 hts (tq_gV tw_739 tw_741 ts_38 tw_6 tw_742) rfl rfl rfl (by decide +kernel) ⟨Nat.le_of_ble_eq_true rfl, Nat.le_of_ble_eq_true rfl⟩) ⟨tq_bl, va_recv hK hP (ci := 5) (q0 := 5) rfl rfl, (tq_pr hP hK hD hS hA hZ hN)⟩ rfl rfl hl.1 rfl (lv_room (Nat.le_of_ble_eq_true rfl)) d_Mo_weigh_73 ⟨Nat.zero_le _, Nat.zero_le _⟩) hD hS hA (fun H locs hP hD hS => ?_)
        refine lv_ishr hx hb d_Mo_weigh_76 ?_
        refine lv_iconst (v := 1) hx hb d_Mo_weigh_77 (by decide) ?_
        refine lv_iand hx hb d_Mo_weigh_78 ?_
        refine lv_iconst (v := 1) hx hb d_Mo_weigh_79 (by decide) ?_
        refine lv_icmp_ne (tgt := 87) hx hb d_Mo_weigh_80 (by decide) (fun c10 => ?_) (fun c10 => ?_)
        · replace hg := tq_if_t c10 hg
          refine lv_iconst (v := 0) hx hb d_Mo_weigh_87 (by decide) ?_
          exact W.zret (v := 0) hx hb hr rfl (fun t ht hW => ⟨⟨0, σ9, rfl, tq_grI hg hn, by rw [ht]; exact hP, va_K.moved hW.alike hK, hD⟩, hS.F ht⟩) hS.2.2 d_Mo_weigh_88
        · replace hg := tq_if_n c10 hg
          refine lv_iconst (v := 1) hx hb d_Mo_weigh_83 (by decide) ?_
          refine lv_goto (tgt := 88) hx hb d_Mo_weigh_84 (by decide) ?_
          exact W.zret (v := 1) hx hb hr rfl (fun t ht hW => ⟨⟨1, σ9, rfl, tq_grI hg hn, by rw [ht]; exact hP, va_K.moved hW.alike hK, hD⟩, hS.F ht⟩) hS.2.2 d_Mo_weigh_88
      replace hg := tq_if_f w45_2 hg
      by_cases w45_3 : v6 = 3
      · replace hg := tq_if_t w45_3 hg
        refine lv_tableIn (tgt := 89) hx hb d_Mo_weigh_21 (by rw [w45_3]; decide) (by rw [w45_3]; decide) (by rw [w45_3]; rfl) (by decide) ?_
        refine lv_aload_n hx hb d_Mo_weigh_89 rfl (lv_at hl 2 rfl) ?_
        refine lv_iload_n hx hb d_Mo_weigh_90 rfl (lv_at hl 3 rfl) ?_
        refine lv_iload_n hx hb d_Mo_weigh_91 rfl (lv_at hl 1 rfl) ?_
        obtain ⟨r12, σ13, f11, hg⟩ := tq_ob_s hg
        refine tq_aI (va_runV (As := [.int x1, .int v2]) (rest := []) ⟨hx, hb, hml, hown, hts⟩ (c_Mo_isHeld l dC dI cI cL cZ ad tt H.size σ x1 v2  r12 σ13 f11) (cwV 2 hts (tq_gV tw_743 tw_745 ts_39 tw_6 tw_746) rfl rfl rfl (by decide +kernel) ⟨Nat.le_of_ble_eq_true rfl, Nat.le_of_ble_eq_true rfl⟩) ⟨tq_bl, va_recv hK hP (ci := 5) (q0 := 5) rfl rfl, (tq_pr hP hK hD hS hA hZ hN)⟩ rfl rfl hl.1 rfl (lv_room (Nat.le_of_ble_eq_true rfl)) d_Mo_weigh_92 ⟨Nat.zero_le _, Nat.zero_le _⟩) hD hS hA (fun H locs hP hD hS => ?_)
        refine lv_if_ne (tgt := 102) hx hb d_Mo_weigh_95 (by decide) (fun c14 => ?_) (fun c14 => ?_)
        · replace hg := tq_if_t c14 hg
          refine lv_iconst (v := 0) hx hb d_Mo_weigh_102 (by decide) ?_
          exact W.zret (v := 0) hx hb hr rfl (fun t ht hW => ⟨⟨0, σ13, rfl, tq_grI hg hn, by rw [ht]; exact hP, va_K.moved hW.alike hK, hD⟩, hS.F ht⟩) hS.2.2 d_Mo_weigh_103
        · replace hg := tq_if_n c14 hg
          refine lv_iconst (v := 1) hx hb d_Mo_weigh_98 (by decide) ?_
          refine lv_goto (tgt := 103) hx hb d_Mo_weigh_99 (by decide) ?_
          exact W.zret (v := 1) hx hb hr rfl (fun t ht hW => ⟨⟨1, σ13, rfl, tq_grI hg hn, by rw [ht]; exact hP, va_K.moved hW.alike hK, hD⟩, hS.F ht⟩) hS.2.2 d_Mo_weigh_103
      replace hg := tq_if_f w45_3 hg
      by_cases w45_4 : v6 = 4
      · replace hg := tq_if_t w45_4 hg
        refine lv_tableIn (tgt := 104) hx hb d_Mo_weigh_21 (by rw [w45_4]; decide) (by rw [w45_4]; decide) (by rw [w45_4]; rfl) (by decide) ?_
        refine lv_aload_n hx hb d_Mo_weigh_104 rfl (lv_at hl 2 rfl) ?_
        refine lv_iload_n hx hb d_Mo_weigh_105 rfl (lv_at hl 3 rfl) ?_
        refine lv_iload_n hx hb d_Mo_weigh_106 rfl (lv_at hl 1 rfl) ?_
        obtain ⟨r16, σ17, f15, hg⟩ := tq_ob_s hg
        refine tq_aI (va_runV (As := [.int x1, .int v2]) (rest := []) ⟨hx, hb, hml, hown, hts⟩ (c_Mo_isHeld l dC dI cI cL cZ ad tt H.size σ x1 v2  r16 σ17 f15) (cwV 2 hts (tq_gV tw_743 tw_745 ts_39 tw_6 tw_746) rfl rfl rfl (by decide +kernel) ⟨Nat.le_of_ble_eq_true rfl, Nat.le_of_ble_eq_true rfl⟩) ⟨tq_bl, va_recv hK hP (ci := 5) (q0 := 5) rfl rfl, (tq_pr hP hK hD hS hA hZ hN)⟩ rfl rfl hl.1 rfl (lv_room (Nat.le_of_ble_eq_true rfl)) d_Mo_weigh_107 ⟨Nat.zero_le _, Nat.zero_le _⟩) hD hS hA (fun H locs hP hD hS => ?_)
        refine lv_if_eq (tgt := 127) hx hb d_Mo_weigh_110 (by decide) (fun c18 => ?_) (fun c18 => ?_)
        · replace hg := tq_if_t c18 hg
          refine lv_iconst (v := 0) hx hb d_Mo_weigh_127 (by decide) ?_
          exact W.zret (v := 0) hx hb hr rfl (fun t ht hW => ⟨⟨0, σ17, rfl, tq_grI hg hn, by rw [ht]; exact hP, va_K.moved hW.alike hK, hD⟩, hS.F ht⟩) hS.2.2 d_Mo_weigh_128
        · replace hg := tq_if_f c18 hg
          refine lv_aload_n hx hb d_Mo_weigh_113 rfl (lv_at hl 2 rfl) ?_
          refine lv_iload_n hx hb d_Mo_weigh_114 rfl (lv_at hl 3 rfl) ?_
          refine lv_iload hx hb d_Mo_weigh_115 (lv_at hl 0 rfl) ?_
          obtain ⟨r20, σ21, f19, hg⟩ := tq_ob_s hg
          refine tq_aI (va_runV (As := [.int x1, .int v4]) (rest := []) ⟨hx, hb, hml, hown, hts⟩ (c_Mo_isHeld l dC dI cI cL cZ ad tt H.size σ17 x1 v4  r20 σ21 f19) (cwV 2 hts (tq_gV tw_743 tw_745 ts_39 tw_6 tw_746) rfl rfl rfl (by decide +kernel) ⟨Nat.le_of_ble_eq_true rfl, Nat.le_of_ble_eq_true rfl⟩) ⟨tq_bl, va_recv hK hP (ci := 5) (q0 := 5) rfl rfl, (tq_pr hP hK hD hS hA hZ hN)⟩ rfl rfl hl.1 rfl (lv_room (Nat.le_of_ble_eq_true rfl)) d_Mo_weigh_117 ⟨Nat.zero_le _, Nat.zero_le _⟩) hD hS hA (fun H locs hP hD hS => ?_)
          refine lv_if_eq (tgt := 127) hx hb d_Mo_weigh_120 (by decide) (fun c22 => ?_) (fun c22 => ?_)
          · replace hg := tq_if_t c22 hg
            refine lv_iconst (v := 0) hx hb d_Mo_weigh_127 (by decide) ?_
            exact W.zret (v := 0) hx hb hr rfl (fun t ht hW => ⟨⟨0, σ21, rfl, tq_grI hg hn, by rw [ht]; exact hP, va_K.moved hW.alike hK, hD⟩, hS.F ht⟩) hS.2.2 d_Mo_weigh_128
          · replace hg := tq_if_f c22 hg
            refine lv_iconst (v := 1) hx hb d_Mo_weigh_123 (by decide) ?_
            refine lv_goto (tgt := 128) hx hb d_Mo_weigh_124 (by decide) ?_
            exact W.zret (v := 1) hx hb hr rfl (fun t ht hW => ⟨⟨1, σ21, rfl, tq_grI hg hn, by rw [ht]; exact hP, va_K.moved hW.alike hK, hD⟩, hS.F ht⟩) hS.2.2 d_Mo_weigh_128
      replace hg := tq_if_f w45_4 hg
      by_cases w45_5 : v6 = 5
      · replace hg := tq_if_t w45_5 hg
        refine lv_tableIn (tgt := 129) hx hb d_Mo_weigh_21 (by rw [w45_5]; decide) (by rw [w45_5]; decide) (by rw [w45_5]; rfl) (by decide) ?_
        refine lv_aload_n hx hb d_Mo_weigh_129 rfl (lv_at hl 2 rfl) ?_
        refine lv_iload_n hx hb d_Mo_weigh_130 rfl (lv_at hl 3 rfl) ?_
        refine lv_iload_n hx hb d_Mo_weigh_131 rfl (lv_at hl 1 rfl) ?_
        obtain ⟨r24, σ25, f23, hg⟩ := tq_ob_s hg
        refine tq_aI (va_runV (As := [.int x1, .int v2]) (rest := []) ⟨hx, hb, hml, hown, hts⟩ (c_Mo_isHeld l dC dI cI cL cZ ad tt H.size σ x1 v2  r24 σ25 f23) (cwV 2 hts (tq_gV tw_743 tw_745 ts_39 tw_6 tw_746) rfl rfl rfl (by decide +kernel) ⟨Nat.le_of_ble_eq_true rfl, Nat.le_of_ble_eq_true rfl⟩) ⟨tq_bl, va_recv hK hP (ci := 5) (q0 := 5) rfl rfl, (tq_pr hP hK hD hS hA hZ hN)⟩ rfl rfl hl.1 rfl (lv_room (Nat.le_of_ble_eq_true rfl)) d_Mo_weigh_132 ⟨Nat.zero_le _, Nat.zero_le _⟩) hD hS hA (fun H locs hP hD hS => ?_)
        refine lv_if_ne (tgt := 148) hx hb d_Mo_weigh_135 (by decide) (fun c26 => ?_) (fun c26 => ?_)
        · replace hg := tq_if_t c26 hg
          refine lv_iconst (v := 1) hx hb d_Mo_weigh_148 (by decide) ?_
          refine lv_goto (tgt := 153) hx hb d_Mo_weigh_149 (by decide) ?_
          exact W.zret (v := 1) hx hb hr rfl (fun t ht hW => ⟨⟨1, σ25, rfl, tq_grI hg hn, by rw [ht]; exact hP, va_K.moved hW.alike hK, hD⟩, hS.F ht⟩) hS.2.2 d_Mo_weigh_153
        · replace hg := tq_if_n c26 hg
          refine lv_aload_n hx hb d_Mo_weigh_138 rfl (lv_at hl 2 rfl) ?_
          refine lv_iload_n hx hb d_Mo_weigh_139 rfl (lv_at hl 3 rfl) ?_
          refine lv_iload hx hb d_Mo_weigh_140 (lv_at hl 0 rfl) ?_
          obtain ⟨r28, σ29, f27, hg⟩ := tq_ob_s hg
          refine tq_aI (va_runV (As := [.int x1, .int v4]) (rest := []) ⟨hx, hb, hml, hown, hts⟩ (c_Mo_isHeld l dC dI cI cL cZ ad tt H.size σ25 x1 v4  r28 σ29 f27) (cwV 2 hts (tq_gV tw_743 tw_745 ts_39 tw_6 tw_746) rfl rfl rfl (by decide +kernel) ⟨Nat.le_of_ble_eq_true rfl, Nat.le_of_ble_eq_true rfl⟩) ⟨tq_bl, va_recv hK hP (ci := 5) (q0 := 5) rfl rfl, (tq_pr hP hK hD hS hA hZ hN)⟩ rfl rfl hl.1 rfl (lv_room (Nat.le_of_ble_eq_true rfl)) d_Mo_weigh_142 ⟨Nat.zero_le _, Nat.zero_le _⟩) hD hS hA (fun H locs hP hD hS => ?_)
          refine lv_if_eq (tgt := 152) hx hb d_Mo_weigh_145 (by decide) (fun c30 => ?_) (fun c30 => ?_)
          · replace hg := tq_if_t c30 hg
            refine lv_iconst (v := 0) hx hb d_Mo_weigh_152 (by decide) ?_
            exact W.zret (v := 0) hx hb hr rfl (fun t ht hW => ⟨⟨0, σ29, rfl, tq_grI hg hn, by rw [ht]; exact hP, va_K.moved hW.alike hK, hD⟩, hS.F ht⟩) hS.2.2 d_Mo_weigh_153
          · replace hg := tq_if_f c30 hg
            refine lv_iconst (v := 1) hx hb d_Mo_weigh_148 (by decide) ?_
            refine lv_goto (tgt := 153) hx hb d_Mo_weigh_149 (by decide) ?_
            exact W.zret (v := 1) hx hb hr rfl (fun t ht hW => ⟨⟨1, σ29, rfl, tq_grI hg hn, by rw [ht]; exact hP, va_K.moved hW.alike hK, hD⟩, hS.F ht⟩) hS.2.2 d_Mo_weigh_153
      replace hg := tq_if_f w45_5 hg
      by_cases w45_6 : v6 = 6
      · replace hg := tq_if_t w45_6 hg
        refine lv_tableIn (tgt := 70) hx hb d_Mo_weigh_21 (by rw [w45_6]; decide) (by rw [w45_6]; decide) (by rw [w45_6]; rfl) (by decide) ?_
        refine lv_iload_n hx hb d_Mo_weigh_70 rfl (lv_at hl 3 rfl) ?_
        refine lv_aload_n hx hb d_Mo_weigh_71 rfl (lv_at hl 2 rfl) ?_
        refine lv_iload_n hx hb d_Mo_weigh_72 rfl (lv_at hl 4 rfl) ?_
        obtain ⟨r32, σ33, f31, hg⟩ := tq_ob_s hg
        refine tq_aI (va_runV (As := [.int x2]) (rest := [.int x1]) ⟨hx, hb, hml, hown, hts⟩ (c_Mo_atomOf l dC dI cI cL cZ ad tt H.size σ x2  r32 σ33 f31) (cwV 1 hts (tq_gV tw_739 tw_741 ts_38 tw_6 tw_742) rfl rfl rfl (by decide +kernel) ⟨Nat.le_of_ble_eq_true rfl, Nat.le_of_ble_eq_true rfl⟩) ⟨tq_bl, va_recv hK hP (ci := 5) (q0 := 5) rfl rfl, (tq_pr hP hK hD hS hA hZ hN)⟩ rfl rfl hl.1 rfl (lv_room (Nat.le_of_ble_eq_true rfl)) d_Mo_weigh_73 ⟨Nat.zero_le _, Nat.zero_le _⟩) hD hS hA (fun H locs hP hD hS => ?_)
        refine lv_ishr hx hb d_Mo_weigh_76 ?_
        refine lv_iconst (v := 1) hx hb d_Mo_weigh_77 (by decide) ?_
        refine lv_iand hx hb d_Mo_weigh_78 ?_
        refine lv_iconst (v := 1) hx hb d_Mo_weigh_79 (by decide) ?_
        refine lv_icmp_ne (tgt := 87) hx hb d_Mo_weigh_80 (by decide) (fun c34 => ?_) (fun c34 => ?_)
        · replace hg := tq_if_t c34 hg
          refine lv_iconst (v := 0) hx hb d_Mo_weigh_87 (by decide) ?_
          exact W.zret (v := 0) hx hb hr rfl (fun t ht hW => ⟨⟨0, σ33, rfl, tq_grI hg hn, by rw [ht]; exact hP, va_K.moved hW.alike hK, hD⟩, hS.F ht⟩) hS.2.2 d_Mo_weigh_88
        · replace hg := tq_if_n c34 hg
          refine lv_iconst (v := 1) hx hb d_Mo_weigh_83 (by decide) ?_
          refine lv_goto (tgt := 88) hx hb d_Mo_weigh_84 (by decide) ?_
          exact W.zret (v := 1) hx hb hr rfl (fun t ht hW => ⟨⟨1, σ33, rfl, tq_grI hg hn, by rw [ht]; exact hP, va_K.moved hW.alike hK, hD⟩, hS.F ht⟩) hS.2.2 d_Mo_weigh_88
      replace hg := tq_if_f w45_6 hg
      by_cases w45_7 : v6 = 7
      · replace hg := tq_if_t w45_7 hg
        refine lv_tableIn (tgt := 154) hx hb d_Mo_weigh_21 (by rw [w45_7]; decide) (by rw [w45_7]; decide) (by rw [w45_7]; rfl) (by decide) ?_
        refine lv_aload_n hx hb d_Mo_weigh_154 rfl (lv_at hl 2 rfl) ?_
        refine lv_iload_n hx hb d_Mo_weigh_155 rfl (lv_at hl 3 rfl) ?_
        refine lv_aload_n hx hb d_Mo_weigh_156 rfl (lv_at hl 2 rfl) ?_
        refine lv_bipush (v := 6) hx hb d_Mo_weigh_157 (by decide) ?_
        refine lv_iload_n hx hb d_Mo_weigh_159 rfl (lv_at hl 1 rfl) ?_
        refine lv_aload_n hx hb d_Mo_weigh_160 rfl (lv_at hl 2 rfl) ?_
        refine lv_iconst (v := 3) hx hb d_Mo_weigh_161 (by decide) ?_
        refine lv_iload hx hb d_Mo_weigh_162 (lv_at hl 0 rfl) ?_
        refine lv_iconst (v := 0) hx hb d_Mo_weigh_164 (by decide) ?_
        obtain ⟨r36, σ37, f35, hg⟩ := tq_ob_s hg
        refine tq_aI (va_runV (As := [.int 3, .int v4, .int 0]) (rest := [.int v2, .int 6, .ref (ad 5), .int x1, .ref (ad 5)]) ⟨hx, hb, hml, hown, hts⟩ (c_Mo_find l dC dI cI cL cZ ad tt H.size σ 3 v4 0  r36 σ37 f35) (cwV 3 hts (tq_gV tw_684 tw_686 ts_33 tw_6 tw_687) rfl rfl rfl (by decide +kernel) ⟨Nat.le_of_ble_eq_true rfl, Nat.le_of_ble_eq_true rfl⟩) ⟨tq_bl, va_recv hK hP (ci := 5) (q0 := 5) rfl rfl, (tq_pr hP hK hD hS hA hZ hN)⟩ rfl rfl hl.1 rfl (lv_room (Nat.le_of_ble_eq_true rfl)) d_Mo_weigh_165 ⟨Nat.zero_le _, Nat.zero_le _⟩) hD hS hA (fun H locs hP hD hS => ?_)
        obtain ⟨r39, σ40, f38, hg⟩ := tq_ob_s hg
        refine tq_aI (va_runV (As := [.int 6, .int v2, .int r36]) (rest := [.int x1, .ref (ad 5)]) ⟨hx, hb, hml, hown, hts⟩ (c_Mo_find l dC dI cI cL cZ ad tt H.size σ37 6 v2 r36  r39 σ40 f38) (cwV 3 hts (tq_gV tw_684 tw_686 ts_33 tw_6 tw_687) rfl rfl rfl (by decide +kernel) ⟨Nat.le_of_ble_eq_true rfl, Nat.le_of_ble_eq_true rfl⟩) ⟨tq_bl, va_recv hK hP (ci := 5) (q0 := 5) rfl rfl, (tq_pr hP hK hD hS hA hZ hN)⟩ rfl rfl hl.1 rfl (lv_room (Nat.le_of_ble_eq_true rfl)) d_Mo_weigh_168 ⟨Nat.zero_le _, Nat.zero_le _⟩) hD hS hA (fun H locs hP hD hS => ?_)
        obtain ⟨r42, σ43, f41, hg⟩ := tq_ob_s hg
        refine tq_aI (va_runV (As := [.int x1, .int r39]) (rest := []) ⟨hx, hb, hml, hown, hts⟩ (c_Mo_isHeld l dC dI cI cL cZ ad tt H.size σ40 x1 r39  r42 σ43 f41) (cwV 2 hts (tq_gV tw_743 tw_745 ts_39 tw_6 tw_746) rfl rfl rfl (by decide +kernel) ⟨Nat.le_of_ble_eq_true rfl, Nat.le_of_ble_eq_true rfl⟩) ⟨tq_bl, va_recv hK hP (ci := 5) (q0 := 5) rfl rfl, (tq_pr hP hK hD hS hA hZ hN)⟩ rfl rfl hl.1 rfl (lv_room (Nat.le_of_ble_eq_true rfl)) d_Mo_weigh_171 ⟨Nat.zero_le _, Nat.zero_le _⟩) hD hS hA (fun H locs hP hD hS => ?_)
        refine lv_if_ne (tgt := 181) hx hb d_Mo_weigh_174 (by decide) (fun c44 => ?_) (fun c44 => ?_)
        · replace hg := tq_if_t c44 hg
          refine lv_iconst (v := 0) hx hb d_Mo_weigh_181 (by decide) ?_
          exact W.zret (v := 0) hx hb hr rfl (fun t ht hW => ⟨⟨0, σ43, rfl, tq_grI hg hn, by rw [ht]; exact hP, va_K.moved hW.alike hK, hD⟩, hS.F ht⟩) hS.2.2 d_Mo_weigh_182
        · replace hg := tq_if_n c44 hg
          refine lv_iconst (v := 1) hx hb d_Mo_weigh_177 (by decide) ?_
          refine lv_goto (tgt := 182) hx hb d_Mo_weigh_178 (by decide) ?_
          exact W.zret (v := 1) hx hb hr rfl (fun t ht hW => ⟨⟨1, σ43, rfl, tq_grI hg hn, by rw [ht]; exact hP, va_K.moved hW.alike hK, hD⟩, hS.F ht⟩) hS.2.2 d_Mo_weigh_182
      replace hg := tq_if_f w45_7 hg
      refine lv_tableOut (tgt := 183) hx hb d_Mo_weigh_21 (by have q0 := tq_ni w45_0 (a := 0) (by decide); have q1 := tq_ni w45_1 (a := 1) (by decide); have q2 := tq_ni w45_2 (a := 2) (by decide); have q3 := tq_ni w45_3 (a := 3) (by decide); have q4 := tq_ni w45_4 (a := 4) (by decide); have q5 := tq_ni w45_5 (a := 5) (by decide); have q6 := tq_ni w45_6 (a := 6) (by decide); have q7 := tq_ni w45_7 (a := 7) (by decide); omega) (by decide) ?_
      refine lv_iconst (v := 0) hx hb d_Mo_weigh_183 (by decide) ?_
      exact W.zret (v := 0) hx hb hr rfl (fun t ht hW => ⟨⟨0, σ, rfl, tq_grI hg hn, by rw [ht]; exact hP, va_K.moved hW.alike hK, hD⟩, hS.F ht⟩) hS.2.2 d_Mo_weigh_184
  exact (key n0) hP hD hS hl h0
noncomputable def bk_Mo_forbids_0 : List Int32 → List Int64 → tq_S → Option tq_C
  | [x1, x2], [], σ => some (5, [x1, x2, 0, 0], [], σ)
  | _, _, _ => none
noncomputable def bk_Mo_forbids_5 : List Int32 → List Int64 → tq_S → Option tq_C
  | [x1, x2, x3, x4], [], σ => if (σ.2.2 14) ≤ x4 then some (tq_rt, [x3], [], σ) else tq_gd x4 10 (tq_lj (ia σ 20 x4) (fun v3 => tq_gd v3 80 (if ¬ (ia σ 17 v3) = 6 then tq_lj (x4 + 1) (fun v6 => some (5, [x1, x2, x3, v6], [], σ)) else tq_gd v3 80 (tq_gd ((4 * x2) + (ia σ 18 v3)) 16 (if (ia σ 32 ((4 * x2) + (ia σ 18 v3))) = 0 then tq_lj (x4 + 1) (fun v10 => some (5, [x1, x2, x3, v10], [], σ)) else if ¬ ((x1 >>> (x4 &&& 31)) &&& 1) = 0 then tq_lj (x4 + 1) (fun v12 => some (5, [x1, x2, x3, v12], [], σ)) else tq_lj (x3 ||| (1 <<< (x4 &&& 31))) (fun v13 => tq_lj (x4 + 1) (fun v14 => some (5, [x1, x2, v13, v14], [], σ))))))))
  | _, _, _ => none
noncomputable def st_Mo_forbids (c : tq_C) : Option tq_C := if c.1 = 0 then bk_Mo_forbids_0 c.2.1 c.2.2.1 c.2.2.2 else if c.1 = 5 then bk_Mo_forbids_5 c.2.1 c.2.2.1 c.2.2.2 else none
set_option maxHeartbeats 40000000 in
set_option maxRecDepth 100000 in
theorem c_Mo_forbids (l : Launch) (dC : Nat → ClassId) (dI : Nat → Nat → Nat) (cI cL cZ : ClassId) (ad : Nat → Nat) (tt : Nat) (sz : Nat) (σ : tq_S) (a1 : Int32) (a2 : Int32) (r : Int32) (σ' : tq_S) (hf : tq_fI st_Mo_forbids (0, [a1, a2], [], σ) = some (r, σ')) : Met l y_Mo_forbids w_Mo_forbids ({ frames := 0, cells := 0, slots := 0, locals := 0 } : Room) (va_Pc [.ref (ad 5), .int a1, .int a2] (tq_B dC dI cI cL cZ tt (wo cI cL cZ ad σ) sz)) (va_Qi (fun (r' : Int32) (u : tq_S) => r' = r ∧ u = σ') (tq_E dC dI cI cL cZ (wo cI cL cZ ad) (va_A (wo cI cL cZ ad σ) sz)) (va_A (wo cI cL cZ ad σ) sz)) 0 0 (va_A (wo cI cL cZ ad σ) sz) := by
  obtain ⟨n0, h0⟩ := tq_fI_to hf
  refine Met.ofW (cc := prog_7_method_20_code) (maxL := 6) (ret := (some .int)) (by decide) rfl ?_
  intro p e s m args below meth c s₁ B hml hv
  obtain ⟨rfl, hsz, hP, hK, hD0, hZ, hN⟩ := hv
  have hx := B.exec
  have hb := B.bytes
  have hr := B.returns
  have hts : ∀ w ∈ tq_T, w.before _ s = true := fun w h => atoms_spec (ws := w_Mo_forbids) B.pre w (List.mem_cons_of_mem _ h)
  have hown : s.vm.findClass "TableauNodesModel" = some m.cls := findClass_of_methodNamed B.named
  have hlocks := B.notSynchronized
  subst hsz
  have hD := hD0.self (sz := s.heap.size)
  have hS : va_S (va_A (wo cI cL cZ ad σ) s.heap.size) s.heap s.heap [] := va_S.rf
  have hA : ∀ q : Nat, s.heap.size ≤ q → va_A (wo cI cL cZ ad σ) s.heap.size q := fun q h => Or.inr h
  generalize va_A (wo cI cL cZ ad σ) s.heap.size = A at hD hS hA hZ ⊢
  have hl := lv_entry ([.ref (ad 5), .int a1, .int a2]) (n := 6) (Nat.le_of_ble_eq_true rfl)
  rw [lg_entry_eq]
  generalize (lg_sl ([.ref (ad 5), .int a1, .int a2]) ++ List.replicate (6 - (lg_sl ([.ref (ad 5), .int a1, .int a2])).length) Slot.unset).toArray = ls at hl ⊢
  have hl : lv_has ls 6 [(0, .ref (ad 5)), (1, .int a1), (2, .int a2)] := hl
  have key : ∀ n : Nat, (∀ {x1 x2 : Int32} {σ : tq_S} {H : Heap} {locs : List Loc} {ls : Array Slot}, va_P (dC, dI) tq_cl (wo cI cL cZ ad σ) H → va_D A (wo cI cL cZ ad σ) → va_S A s.heap H locs → lv_has ls 6 [(0, .ref (ad 5)), (1, .int x1), (2, .int x2)] → tq_go st_Mo_forbids n (0, [x1, x2], [], σ) = some (tq_rt, [r], [], σ') → W p l e (headSpec w_Mo_forbids ({ frames := 0, cells := 0, slots := 0, locals := 0 } : Room)).room s m ([.ref (ad 5), .int a1, .int a2] : List Value).toArray below meth c H locs 0 0 (MQ below (va_Qi (fun (r' : Int32) (u : tq_S) => r' = r ∧ u = σ') (tq_E dC dI cI cL cZ (wo cI cL cZ ad) A) A) ([.ref (ad 5), .int a1, .int a2] : List Value).toArray s 0 0 A) (F0 m 0 ls [])) ∧ (∀ {x1 x2 x3 x4 : Int32} {σ : tq_S} {H : Heap} {locs : List Loc} {ls : Array Slot}, va_P (dC, dI) tq_cl (wo cI cL cZ ad σ) H → va_D A (wo cI cL cZ ad σ) → va_S A s.heap H locs → lv_has ls 6 [(0, .ref (ad 5)), (1, .int x1), (2, .int x2), (3, .int x3), (4, .int x4)] → tq_go st_Mo_forbids n (5, [x1, x2, x3, x4], [], σ) = some (tq_rt, [r], [], σ') → W p l e (headSpec w_Mo_forbids ({ frames := 0, cells := 0, slots := 0, locals := 0 } : Room)).room s m ([.ref (ad 5), .int a1, .int a2] : List Value).toArray below meth c H locs 0 0 (MQ below (va_Qi (fun (r' : Int32) (u : tq_S) => r' = r ∧ u = σ') (tq_E dC dI cI cL cZ (wo cI cL cZ ad) A) A) ([.ref (ad 5), .int a1, .int a2] : List Value).toArray s 0 0 A) (F0 m 5 ls [])) := by
    intro n
    induction n with
    | zero => exact ⟨(fun _ _ _ _ h => by cases h), (fun _ _ _ _ h => by cases h)⟩
    | succ n ih =>
      refine ⟨?_, ?_⟩
      · intro x1 x2 σ H locs ls hP hD hS hl h9
        obtain ⟨q9, hg, hn⟩ := tq_go_s h9 (show ¬ (0 : Nat) = tq_rt by decide)
        replace hg : bk_Mo_forbids_0 [x1, x2] [] σ = some q9 := hg
        unfold bk_Mo_forbids_0 at hg
        refine lv_iconst (v := 0) hx hb d_Mo_forbids_0 (by decide) ?_
        refine lv_istore_n (lv' := [(3, .int 0), (0, .ref (ad 5)), (1, .int x1), (2, .int x2)]) hx hb d_Mo_forbids_1 rfl hl (by decide) rfl (fun ls hl => ?_)
        refine lv_iconst (v := 0) hx hb d_Mo_forbids_2 (by decide) ?_
        refine lv_istore (lv' := [(4, .int 0), (3, .int 0), (0, .ref (ad 5)), (1, .int x1), (2, .int x2)]) hx hb d_Mo_forbids_3 hl (by decide) rfl (fun ls hl => ?_)
        exact ih.2 hP hD hS (lv_sub hl [2, 3, 4, 1, 0] rfl) (tq_gi hg hn)
      · intro x1 x2 x3 x4 σ H locs ls hP hD hS hl h9
        obtain ⟨q9, hg, hn⟩ := tq_go_s h9 (show ¬ (5 : Nat) = tq_rt by decide)
        replace hg : bk_Mo_forbids_5 [x1, x2, x3, x4] [] σ = some q9 := hg
        unfold bk_Mo_forbids_5 at hg
        refine lv_iload hx hb d_Mo_forbids_5 (lv_at hl 4 rfl) ?_
        refine lv_aload_n hx hb d_Mo_forbids_7 rfl (lv_at hl 0 rfl) ?_
        refine va_get (D := (dC, dI)) (ci := 5) (v := .int (σ.2.2 14)) (C := "TableauNodesModel") (T := F_Mo) (N := 25) hx hb hts in_Mo hown hK hP 5 rfl rfl 5 (by decide) (hts _ tw_604) (fun _ h9 => h9) rfl d_Mo_forbids_8 ?_
        refine lv_icmp_ge (tgt := 76) hx hb d_Mo_forbids_11 (by decide) (fun c1 => ?_) (fun c1 => ?_)
        · replace hg := tq_if_t c1 hg
          refine lv_iload_n hx hb d_Mo_forbids_76 rfl (lv_at hl 3 rfl) ?_
          exact W.iret (v := x3) hx hb hr (fun t ht hW => ⟨⟨x3, σ, rfl, tq_grI hg hn, by rw [ht]; exact hP, va_K.moved hW.alike hK, hD⟩, hS.F ht⟩) hS.2.2 d_Mo_forbids_77
        · replace hg := tq_if_f c1 hg
          refine lv_aload_n hx hb d_Mo_forbids_14 rfl (lv_at hl 0 rfl) ?_
          refine va_get (D := (dC, dI)) (ci := 5) (v := .ref (ad 33)) (C := "TableauNodesModel") (T := F_Mo) (N := 25) hx hb hts in_Mo hown hK hP 5 rfl rfl 4 (by decide) (hts _ tw_603) (fun _ h9 => h9) rfl d_Mo_forbids_15 ?_
          refine lv_iload hx hb d_Mo_forbids_18 (lv_at hl 4 rfl) ?_
          obtain ⟨g2, hg⟩ := tq_gd_s hg
          refine va_iald hx hb hK hP 33 0 rfl rfl g2 d_Mo_forbids_20 ?_
          obtain ⟨v3, ev3, hg⟩ := tq_lj_s hg
          refine tq_nmi ev3 ?_
          refine lv_istore (lv' := [(5, .int v3), (0, .ref (ad 5)), (1, .int x1), (2, .int x2), (3, .int x3), (4, .int x4)]) hx hb d_Mo_forbids_21 hl (by decide) rfl (fun ls hl => ?_)
          refine lv_aload_n hx hb d_Mo_forbids_23 rfl (lv_at hl 1 rfl) ?_
          refine va_get (D := (dC, dI)) (ci := 5) (v := .ref (ad 30)) (C := "TableauNodesModel") (T := F_Mo) (N := 25) hx hb hts in_Mo hown hK hP 5 rfl rfl 0 (by decide) (hts _ tw_599) (fun _ h9 => h9) rfl d_Mo_forbids_24 ?_
          refine lv_iload hx hb d_Mo_forbids_27 (lv_at hl 0 rfl) ?_
          obtain ⟨g4, hg⟩ := tq_gd_s hg
          refine va_iald hx hb hK hP 30 0 rfl rfl g4 d_Mo_forbids_29 ?_
          refine lv_bipush (v := 6) hx hb d_Mo_forbids_30 (by decide) ?_
          refine lv_icmp_ne (tgt := 70) hx hb d_Mo_forbids_32 (by decide) (fun c5 => ?_) (fun c5 => ?_)
          · replace hg := tq_if_t c5 hg
            obtain ⟨v6, ev6, hg⟩ := tq_lj_s hg
            refine lv_iinc (v := v6) (lv' := [(4, .int v6), (5, .int v3), (0, .ref (ad 5)), (1, .int x1), (2, .int x2), (3, .int x3)]) hx hb d_Mo_forbids_70 hl (k := 5) rfl (by rw [ev6]; rfl) (by decide) rfl (fun ls hl => ?_)
            refine lv_goto (tgt := 5) hx hb d_Mo_forbids_73 (by decide) ?_
            exact ih.2 hP hD hS (lv_sub hl [2, 3, 4, 5, 0] rfl) (tq_gi hg hn)
          · replace hg := tq_if_n c5 hg
            refine lv_aload_n hx hb d_Mo_forbids_35 rfl (lv_at hl 1 rfl) ?_
            refine va_get (D := (dC, dI)) (ci := 5) (v := .ref (ad 45)) (C := "TableauNodesModel") (T := F_Mo) (N := 25) hx hb hts in_Mo hown hK hP 5 rfl rfl 21 (by decide) (hts _ tw_620) (fun _ h9 => h9) rfl d_Mo_forbids_36 ?_
            refine lv_iconst (v := 4) hx hb d_Mo_forbids_39 (by decide) ?_
            refine lv_iload_n hx hb d_Mo_forbids_40 rfl (lv_at hl 3 rfl) ?_
            refine lv_imul hx hb d_Mo_forbids_41 ?_
            refine lv_aload_n hx hb d_Mo_forbids_42 rfl (lv_at hl 1 rfl) ?_
            refine va_get (D := (dC, dI)) (ci := 5) (v := .ref (ad 31)) (C := "TableauNodesModel") (T := F_Mo) (N := 25) hx hb hts in_Mo hown hK hP 5 rfl rfl 1 (by decide) (hts _ tw_600) (fun _ h9 => h9) rfl d_Mo_forbids_43 ?_
            refine lv_iload hx hb d_Mo_forbids_46 (lv_at hl 0 rfl) ?_
            obtain ⟨g7, hg⟩ := tq_gd_s hg
            refine va_iald hx hb hK hP 31 0 rfl rfl g7 d_Mo_forbids_48 ?_
            refine lv_iadd hx hb d_Mo_forbids_49 ?_
            obtain ⟨g8, hg⟩ := tq_gd_s hg
            refine va_zald hx hb hK hP 45 2 rfl rfl g8 d_Mo_forbids_50 ?_
            refine lv_if_eq (tgt := 70) hx hb d_Mo_forbids_51 (by decide) (fun c9 => ?_) (fun c9 => ?_)
            · replace hg := tq_if_t c9 hg
              obtain ⟨v10, ev10, hg⟩ := tq_lj_s hg
              refine lv_iinc (v := v10) (lv' := [(4, .int v10), (5, .int v3), (0, .ref (ad 5)), (1, .int x1), (2, .int x2), (3, .int x3)]) hx hb d_Mo_forbids_70 hl (k := 5) rfl (by rw [ev10]; rfl) (by decide) rfl (fun ls hl => ?_)
              refine lv_goto (tgt := 5) hx hb d_Mo_forbids_73 (by decide) ?_
              exact ih.2 hP hD hS (lv_sub hl [2, 3, 4, 5, 0] rfl) (tq_gi hg hn)
            · replace hg := tq_if_f c9 hg
              refine lv_iload_n hx hb d_Mo_forbids_54 rfl (lv_at hl 2 rfl) ?_
              refine lv_iload hx hb d_Mo_forbids_55 (lv_at hl 5 rfl) ?_
              refine lv_ishr hx hb d_Mo_forbids_57 ?_
              refine lv_iconst (v := 1) hx hb d_Mo_forbids_58 (by decide) ?_
              refine lv_iand hx hb d_Mo_forbids_59 ?_
              refine lv_if_ne (tgt := 70) hx hb d_Mo_forbids_60 (by decide) (fun c11 => ?_) (fun c11 => ?_)
              · replace hg := tq_if_t c11 hg
                obtain ⟨v12, ev12, hg⟩ := tq_lj_s hg
                refine lv_iinc (v := v12) (lv' := [(4, .int v12), (5, .int v3), (0, .ref (ad 5)), (1, .int x1), (2, .int x2), (3, .int x3)]) hx hb d_Mo_forbids_70 hl (k := 5) rfl (by rw [ev12]; rfl) (by decide) rfl (fun ls hl => ?_)
                refine lv_goto (tgt := 5) hx hb d_Mo_forbids_73 (by decide) ?_
                exact ih.2 hP hD hS (lv_sub hl [2, 3, 4, 5, 0] rfl) (tq_gi hg hn)
              · replace hg := tq_if_n c11 hg
                refine lv_iload_n hx hb d_Mo_forbids_63 rfl (lv_at hl 4 rfl) ?_
                refine lv_iconst (v := 1) hx hb d_Mo_forbids_64 (by decide) ?_
                refine lv_iload hx hb d_Mo_forbids_65 (lv_at hl 5 rfl) ?_
                refine lv_ishl hx hb d_Mo_forbids_67 ?_
                refine lv_ior hx hb d_Mo_forbids_68 ?_
                obtain ⟨v13, ev13, hg⟩ := tq_lj_s hg
                refine tq_nmi ev13 ?_
                refine lv_istore_n (lv' := [(3, .int v13), (5, .int v3), (0, .ref (ad 5)), (1, .int x1), (2, .int x2), (4, .int x4)]) hx hb d_Mo_forbids_69 rfl hl (by decide) rfl (fun ls hl => ?_)
                obtain ⟨v14, ev14, hg⟩ := tq_lj_s hg
                refine lv_iinc (v := v14) (lv' := [(4, .int v14), (3, .int v13), (5, .int v3), (0, .ref (ad 5)), (1, .int x1), (2, .int x2)]) hx hb d_Mo_forbids_70 hl (k := 5) rfl (by rw [ev14]; rfl) (by decide) rfl (fun ls hl => ?_)
                refine lv_goto (tgt := 5) hx hb d_Mo_forbids_73 (by decide) ?_
                exact ih.2 hP hD hS (lv_sub hl [3, 4, 5, 1, 0] rfl) (tq_gi hg hn)
  exact (key n0).1 hP hD hS hl h0
noncomputable def bk_Mo_isThere_0 : List Int32 → List Int64 → tq_S → Option tq_C
  | [x1, x2, x3], [], σ => some (6, [x1, x2, x3, 0, 0], [], σ)
  | _, _, _ => none
noncomputable def bk_Mo_isThere_6 : List Int32 → List Int64 → tq_S → Option tq_C
  | [x1, x2, x3, x4, x5], [], σ => tq_ob (tq_fI st_Mo_size (0, [], [], σ)) (fun r2 σ3 => if r2 ≤ x5 then tq_gb x4 (some (tq_rt, [x4], [], σ3)) else if ¬ x4 = 0 then tq_gb x4 (some (tq_rt, [x4], [], σ3)) else tq_gd x5 1024 (if (ia σ3 31 x5) = 0 then some (41, [x1, x2, x3, x5], [], σ3) else tq_gd x5 1024 (if ¬ (ia σ3 31 x5) = x3 then tq_lj (x5 + 1) (fun v12 => some (6, [x1, x2, x3, 0, v12], [], σ3)) else some (41, [x1, x2, x3, x5], [], σ3))))
  | _, _, _ => none
noncomputable def bk_Mo_isThere_41 : List Int32 → List Int64 → tq_S → Option tq_C
  | [x1, x2, x3, x5], [], σ => tq_gd x5 1024 (if ¬ (((ia σ 30 x5) >>> (x2 &&& 31)) &&& 1) = 1 then tq_lj (x5 + 1) (fun v15 => some (6, [x1, x2, x3, 0, v15], [], σ)) else tq_gd x5 1024 (if ¬ ((ia σ 30 x5) &&& x1) = 0 then tq_lj (x5 + 1) (fun v18 => some (6, [x1, x2, x3, 0, v18], [], σ)) else tq_lj (x5 + 1) (fun v19 => some (6, [x1, x2, x3, 1, v19], [], σ))))
  | _, _, _ => none
noncomputable def st_Mo_isThere (c : tq_C) : Option tq_C := if c.1 = 0 then bk_Mo_isThere_0 c.2.1 c.2.2.1 c.2.2.2 else if c.1 = 6 then bk_Mo_isThere_6 c.2.1 c.2.2.1 c.2.2.2 else if c.1 = 41 then bk_Mo_isThere_41 c.2.1 c.2.2.1 c.2.2.2 else none
set_option maxHeartbeats 40000000 in
set_option maxRecDepth 100000 in
theorem c_Mo_isThere (l : Launch) (dC : Nat → ClassId) (dI : Nat → Nat → Nat) (cI cL cZ : ClassId) (ad : Nat → Nat) (tt : Nat) (sz : Nat) (σ : tq_S) (a1 : Int32) (a2 : Int32) (a3 : Int32) (r : Int32) (σ' : tq_S) (hf : tq_fI st_Mo_isThere (0, [a1, a2, a3], [], σ) = some (r, σ')) : Met l y_Mo_isThere w_Mo_isThere ({ frames := 1, cells := 0, slots := 0, locals := 20 } : Room) (va_Pc [.ref (ad 5), .int a1, .int a2, .int a3] (tq_B dC dI cI cL cZ tt (wo cI cL cZ ad σ) sz)) (va_Qi (fun (r' : Int32) (u : tq_S) => r' = r ∧ u = σ') (tq_E dC dI cI cL cZ (wo cI cL cZ ad) (va_A (wo cI cL cZ ad σ) sz)) (va_A (wo cI cL cZ ad σ) sz)) 0 0 (va_A (wo cI cL cZ ad σ) sz) := by
  obtain ⟨n0, h0⟩ := tq_fI_to hf
  refine Met.ofW (cc := prog_7_method_23_code) (maxL := 6) (ret := (some .boolean)) (by decide) rfl ?_
  intro p e s m args below meth c s₁ B hml hv
  obtain ⟨rfl, hsz, hP, hK, hD0, hZ, hN⟩ := hv
  have hx := B.exec
  have hb := B.bytes
  have hr := B.returns
  have hts : ∀ w ∈ tq_T, w.before _ s = true := fun w h => atoms_spec (ws := w_Mo_isThere) B.pre w (List.mem_cons_of_mem _ h)
  have hown : s.vm.findClass "TableauNodesModel" = some m.cls := findClass_of_methodNamed B.named
  have hlocks := B.notSynchronized
  subst hsz
  have hD := hD0.self (sz := s.heap.size)
  have hS : va_S (va_A (wo cI cL cZ ad σ) s.heap.size) s.heap s.heap [] := va_S.rf
  have hA : ∀ q : Nat, s.heap.size ≤ q → va_A (wo cI cL cZ ad σ) s.heap.size q := fun q h => Or.inr h
  generalize va_A (wo cI cL cZ ad σ) s.heap.size = A at hD hS hA hZ ⊢
  have hl := lv_entry ([.ref (ad 5), .int a1, .int a2, .int a3]) (n := 6) (Nat.le_of_ble_eq_true rfl)
  rw [lg_entry_eq]
  generalize (lg_sl ([.ref (ad 5), .int a1, .int a2, .int a3]) ++ List.replicate (6 - (lg_sl ([.ref (ad 5), .int a1, .int a2, .int a3])).length) Slot.unset).toArray = ls at hl ⊢
  have hl : lv_has ls 6 [(0, .ref (ad 5)), (1, .int a1), (2, .int a2), (3, .int a3)] := hl
  have key : ∀ n : Nat, (∀ {x1 x2 x3 : Int32} {σ : tq_S} {H : Heap} {locs : List Loc} {ls : Array Slot}, va_P (dC, dI) tq_cl (wo cI cL cZ ad σ) H → va_D A (wo cI cL cZ ad σ) → va_S A s.heap H locs → lv_has ls 6 [(0, .ref (ad 5)), (1, .int x1), (2, .int x2), (3, .int x3)] → tq_go st_Mo_isThere n (0, [x1, x2, x3], [], σ) = some (tq_rt, [r], [], σ') → W p l e (headSpec w_Mo_isThere ({ frames := 1, cells := 0, slots := 0, locals := 20 } : Room)).room s m ([.ref (ad 5), .int a1, .int a2, .int a3] : List Value).toArray below meth c H locs 0 0 (MQ below (va_Qi (fun (r' : Int32) (u : tq_S) => r' = r ∧ u = σ') (tq_E dC dI cI cL cZ (wo cI cL cZ ad) A) A) ([.ref (ad 5), .int a1, .int a2, .int a3] : List Value).toArray s 0 0 A) (F0 m 0 ls [])) ∧ (∀ {x1 x2 x3 x4 x5 : Int32} {σ : tq_S} {H : Heap} {locs : List Loc} {ls : Array Slot}, va_P (dC, dI) tq_cl (wo cI cL cZ ad σ) H → va_D A (wo cI cL cZ ad σ) → va_S A s.heap H locs → lv_has ls 6 [(0, .ref (ad 5)), (1, .int x1), (2, .int x2), (3, .int x3), (4, .int x4), (5, .int x5)] → tq_go st_Mo_isThere n (6, [x1, x2, x3, x4, x5], [], σ) = some (tq_rt, [r], [], σ') → W p l e (headSpec w_Mo_isThere ({ frames := 1, cells := 0, slots := 0, locals := 20 } : Room)).room s m ([.ref (ad 5), .int a1, .int a2, .int a3] : List Value).toArray below meth c H locs 0 0 (MQ below (va_Qi (fun (r' : Int32) (u : tq_S) => r' = r ∧ u = σ') (tq_E dC dI cI cL cZ (wo cI cL cZ ad) A) A) ([.ref (ad 5), .int a1, .int a2, .int a3] : List Value).toArray s 0 0 A) (F0 m 6 ls [])) ∧ (∀ {x1 x2 x3 x5 : Int32} {σ : tq_S} {H : Heap} {locs : List Loc} {ls : Array Slot}, va_P (dC, dI) tq_cl (wo cI cL cZ ad σ) H → va_D A (wo cI cL cZ ad σ) → va_S A s.heap H locs → lv_has ls 6 [(0, .ref (ad 5)), (1, .int x1), (2, .int x2), (3, .int x3), (5, .int x5)] → tq_go st_Mo_isThere n (41, [x1, x2, x3, x5], [], σ) = some (tq_rt, [r], [], σ') → W p l e (headSpec w_Mo_isThere ({ frames := 1, cells := 0, slots := 0, locals := 20 } : Room)).room s m ([.ref (ad 5), .int a1, .int a2, .int a3] : List Value).toArray below meth c H locs 0 0 (MQ below (va_Qi (fun (r' : Int32) (u : tq_S) => r' = r ∧ u = σ') (tq_E dC dI cI cL cZ (wo cI cL cZ ad) A) A) ([.ref (ad 5), .int a1, .int a2, .int a3] : List Value).toArray s 0 0 A) (F0 m 41 ls [])) := by
    intro n
    induction n with
    | zero => exact ⟨(fun _ _ _ _ h => by cases h), (fun _ _ _ _ h => by cases h), (fun _ _ _ _ h => by cases h)⟩
    | succ n ih =>
      refine ⟨?_, ?_, ?_⟩
      · intro x1 x2 x3 σ H locs ls hP hD hS hl h9
        obtain ⟨q9, hg, hn⟩ := tq_go_s h9 (show ¬ (0 : Nat) = tq_rt by decide)
        replace hg : bk_Mo_isThere_0 [x1, x2, x3] [] σ = some q9 := hg
        unfold bk_Mo_isThere_0 at hg
        refine lv_iconst (v := 0) hx hb d_Mo_isThere_0 (by decide) ?_
        refine lv_istore (lv' := [(4, .int 0), (0, .ref (ad 5)), (1, .int x1), (2, .int x2), (3, .int x3)]) hx hb d_Mo_isThere_1 hl (by decide) rfl (fun ls hl => ?_)
        refine lv_iconst (v := 0) hx hb d_Mo_isThere_3 (by decide) ?_
        refine lv_istore (lv' := [(5, .int 0), (4, .int 0), (0, .ref (ad 5)), (1, .int x1), (2, .int x2), (3, .int x3)]) hx hb d_Mo_isThere_4 hl (by decide) rfl (fun ls hl => ?_)
        exact ih.2.1 hP hD hS (lv_sub hl [2, 3, 4, 5, 1, 0] rfl) (tq_gi hg hn)
      · intro x1 x2 x3 x4 x5 σ H locs ls hP hD hS hl h9
        obtain ⟨q9, hg, hn⟩ := tq_go_s h9 (show ¬ (6 : Nat) = tq_rt by decide)
        replace hg : bk_Mo_isThere_6 [x1, x2, x3, x4, x5] [] σ = some q9 := hg
        unfold bk_Mo_isThere_6 at hg
        refine lv_iload hx hb d_Mo_isThere_6 (lv_at hl 5 rfl) ?_
        refine lv_aload_n hx hb d_Mo_isThere_8 rfl (lv_at hl 0 rfl) ?_
        obtain ⟨r2, σ3, f1, hg⟩ := tq_ob_s hg
        refine tq_aI (va_runV (As := []) (rest := [.int x5]) ⟨hx, hb, hml, hown, hts⟩ (c_Mo_size l dC dI cI cL cZ ad tt H.size σ   r2 σ3 f1) (cwV 0 hts (tq_gV tw_731 tw_733 ts_36 tw_6 tw_734) rfl rfl rfl (by decide +kernel) ⟨Nat.le_of_ble_eq_true rfl, Nat.le_of_ble_eq_true rfl⟩) ⟨tq_bl, va_recv hK hP (ci := 5) (q0 := 5) rfl rfl, (tq_pr hP hK hD hS hA hZ hN)⟩ rfl rfl hl.1 rfl (lv_room (Nat.le_of_ble_eq_true rfl)) d_Mo_isThere_9 ⟨Nat.zero_le _, Nat.zero_le _⟩) hD hS hA (fun H locs hP hD hS => ?_)
        refine lv_icmp_ge (tgt := 81) hx hb d_Mo_isThere_12 (by decide) (fun c4 => ?_) (fun c4 => ?_)
        · replace hg := tq_if_t c4 hg
          refine lv_iload hx hb d_Mo_isThere_81 (lv_at hl 4 rfl) ?_
          obtain ⟨b5, hg⟩ := tq_gb_s hg
          exact W.zret (v := x4) hx hb hr (tq_nb b5) (fun t ht hW => ⟨⟨x4, σ3, rfl, tq_grI hg hn, by rw [ht]; exact hP, va_K.moved hW.alike hK, hD⟩, hS.F ht⟩) hS.2.2 d_Mo_isThere_83
        · replace hg := tq_if_f c4 hg
          refine lv_iload hx hb d_Mo_isThere_15 (lv_at hl 4 rfl) ?_
          refine lv_if_ne (tgt := 81) hx hb d_Mo_isThere_17 (by decide) (fun c6 => ?_) (fun c6 => ?_)
          · replace hg := tq_if_t c6 hg
            refine lv_iload hx hb d_Mo_isThere_81 (lv_at hl 4 rfl) ?_
            obtain ⟨b7, hg⟩ := tq_gb_s hg
            exact W.zret (v := x4) hx hb hr (tq_nb b7) (fun t ht hW => ⟨⟨x4, σ3, rfl, tq_grI hg hn, by rw [ht]; exact hP, va_K.moved hW.alike hK, hD⟩, hS.F ht⟩) hS.2.2 d_Mo_isThere_83
          · replace hg := tq_if_n c6 hg
            refine lv_aload_n hx hb d_Mo_isThere_20 rfl (lv_at hl 0 rfl) ?_
            refine va_get (D := (dC, dI)) (ci := 5) (v := .ref (ad 44)) (C := "TableauNodesModel") (T := F_Mo) (N := 25) hx hb hts in_Mo hown hK hP 5 rfl rfl 20 (by decide) (hts _ tw_619) (fun _ h9 => h9) rfl d_Mo_isThere_21 ?_
            refine lv_iload hx hb d_Mo_isThere_24 (lv_at hl 5 rfl) ?_
            obtain ⟨g8, hg⟩ := tq_gd_s hg
            refine va_iald hx hb hK hP 44 0 rfl rfl g8 d_Mo_isThere_26 ?_
            refine lv_if_eq (tgt := 41) hx hb d_Mo_isThere_27 (by decide) (fun c9 => ?_) (fun c9 => ?_)
            · replace hg := tq_if_t c9 hg
              exact ih.2.2 hP hD hS (lv_sub hl [0, 1, 2, 3, 5] rfl) (tq_gi hg hn)
            · replace hg := tq_if_f c9 hg
              refine lv_aload_n hx hb d_Mo_isThere_30 rfl (lv_at hl 0 rfl) ?_
              refine va_get (D := (dC, dI)) (ci := 5) (v := .ref (ad 44)) (C := "TableauNodesModel") (T := F_Mo) (N := 25) hx hb hts in_Mo hown hK hP 5 rfl rfl 20 (by decide) (hts _ tw_619) (fun _ h9 => h9) rfl d_Mo_isThere_31 ?_
              refine lv_iload hx hb d_Mo_isThere_34 (lv_at hl 5 rfl) ?_
              obtain ⟨g10, hg⟩ := tq_gd_s hg
              refine va_iald hx hb hK hP 44 0 rfl rfl g10 d_Mo_isThere_36 ?_
              refine lv_iload_n hx hb d_Mo_isThere_37 rfl (lv_at hl 3 rfl) ?_
              refine lv_icmp_ne (tgt := 72) hx hb d_Mo_isThere_38 (by decide) (fun c11 => ?_) (fun c11 => ?_)
              · replace hg := tq_if_t c11 hg
                refine lv_iconst (v := 0) hx hb d_Mo_isThere_72 (by decide) ?_
                refine lv_istore (lv' := [(4, .int 0), (0, .ref (ad 5)), (1, .int x1), (2, .int x2), (3, .int x3), (5, .int x5)]) hx hb d_Mo_isThere_73 hl (by decide) rfl (fun ls hl => ?_)
                obtain ⟨v12, ev12, hg⟩ := tq_lj_s hg
                refine lv_iinc (v := v12) (lv' := [(5, .int v12), (4, .int 0), (0, .ref (ad 5)), (1, .int x1), (2, .int x2), (3, .int x3)]) hx hb d_Mo_isThere_75 hl (k := 5) rfl (by rw [ev12]; rfl) (by decide) rfl (fun ls hl => ?_)
                refine lv_goto (tgt := 6) hx hb d_Mo_isThere_78 (by decide) ?_
                exact ih.2.1 hP hD hS (lv_sub hl [2, 3, 4, 5, 1, 0] rfl) (tq_gi hg hn)
              · replace hg := tq_if_n c11 hg
                exact ih.2.2 hP hD hS (lv_sub hl [0, 1, 2, 3, 5] rfl) (tq_gi hg hn)
      · intro x1 x2 x3 x5 σ H locs ls hP hD hS hl h9
        obtain ⟨q9, hg, hn⟩ := tq_go_s h9 (show ¬ (41 : Nat) = tq_rt by decide)
        replace hg : bk_Mo_isThere_41 [x1, x2, x3, x5] [] σ = some q9 := hg
        unfold bk_Mo_isThere_41 at hg
        refine lv_aload_n hx hb d_Mo_isThere_41 rfl (lv_at hl 0 rfl) ?_
        refine va_get (D := (dC, dI)) (ci := 5) (v := .ref (ad 43)) (C := "TableauNodesModel") (T := F_Mo) (N := 25) hx hb hts in_Mo hown hK hP 5 rfl rfl 19 (by decide) (hts _ tw_618) (fun _ h9 => h9) rfl d_Mo_isThere_42 ?_
        refine lv_iload hx hb d_Mo_isThere_45 (lv_at hl 4 rfl) ?_
        obtain ⟨g13, hg⟩ := tq_gd_s hg
        refine va_iald hx hb hK hP 43 0 rfl rfl g13 d_Mo_isThere_47 ?_
        refine lv_iload_n hx hb d_Mo_isThere_48 rfl (lv_at hl 2 rfl) ?_
        refine lv_ishr hx hb d_Mo_isThere_49 ?_
        refine lv_iconst (v := 1) hx hb d_Mo_isThere_50 (by decide) ?_
        refine lv_iand hx hb d_Mo_isThere_51 ?_
        refine lv_iconst (v := 1) hx hb d_Mo_isThere_52 (by decide) ?_
        refine lv_icmp_ne (tgt := 72) hx hb d_Mo_isThere_53 (by decide) (fun c14 => ?_) (fun c14 => ?_)
        · replace hg := tq_if_t c14 hg
          refine lv_iconst (v := 0) hx hb d_Mo_isThere_72 (by decide) ?_
          refine lv_istore (lv' := [(4, .int 0), (0, .ref (ad 5)), (1, .int x1), (2, .int x2), (3, .int x3), (5, .int x5)]) hx hb d_Mo_isThere_73 hl (by decide) rfl (fun ls hl => ?_)
          obtain ⟨v15, ev15, hg⟩ := tq_lj_s hg
          refine lv_iinc (v := v15) (lv' := [(5, .int v15), (4, .int 0), (0, .ref (ad 5)), (1, .int x1), (2, .int x2), (3, .int x3)]) hx hb d_Mo_isThere_75 hl (k := 5) rfl (by rw [ev15]; rfl) (by decide) rfl (fun ls hl => ?_)
          refine lv_goto (tgt := 6) hx hb d_Mo_isThere_78 (by decide) ?_
          exact ih.2.1 hP hD hS (lv_sub hl [2, 3, 4, 5, 1, 0] rfl) (tq_gi hg hn)
        · replace hg := tq_if_n c14 hg
          refine lv_aload_n hx hb d_Mo_isThere_56 rfl (lv_at hl 0 rfl) ?_
          refine va_get (D := (dC, dI)) (ci := 5) (v := .ref (ad 43)) (C := "TableauNodesModel") (T := F_Mo) (N := 25) hx hb hts in_Mo hown hK hP 5 rfl rfl 19 (by decide) (hts _ tw_618) (fun _ h9 => h9) rfl d_Mo_isThere_57 ?_
          refine lv_iload hx hb d_Mo_isThere_60 (lv_at hl 4 rfl) ?_
          obtain ⟨g16, hg⟩ := tq_gd_s hg
          refine va_iald hx hb hK hP 43 0 rfl rfl g16 d_Mo_isThere_62 ?_
          refine lv_iload_n hx hb d_Mo_isThere_63 rfl (lv_at hl 1 rfl) ?_
          refine lv_iand hx hb d_Mo_isThere_64 ?_
          refine lv_if_ne (tgt := 72) hx hb d_Mo_isThere_65 (by decide) (fun c17 => ?_) (fun c17 => ?_)
          · replace hg := tq_if_t c17 hg
            refine lv_iconst (v := 0) hx hb d_Mo_isThere_72 (by decide) ?_
            refine lv_istore (lv' := [(4, .int 0), (0, .ref (ad 5)), (1, .int x1), (2, .int x2), (3, .int x3), (5, .int x5)]) hx hb d_Mo_isThere_73 hl (by decide) rfl (fun ls hl => ?_)
            obtain ⟨v18, ev18, hg⟩ := tq_lj_s hg
            refine lv_iinc (v := v18) (lv' := [(5, .int v18), (4, .int 0), (0, .ref (ad 5)), (1, .int x1), (2, .int x2), (3, .int x3)]) hx hb d_Mo_isThere_75 hl (k := 5) rfl (by rw [ev18]; rfl) (by decide) rfl (fun ls hl => ?_)
            refine lv_goto (tgt := 6) hx hb d_Mo_isThere_78 (by decide) ?_
            exact ih.2.1 hP hD hS (lv_sub hl [2, 3, 4, 5, 1, 0] rfl) (tq_gi hg hn)
          · replace hg := tq_if_n c17 hg
            refine lv_iconst (v := 1) hx hb d_Mo_isThere_68 (by decide) ?_
            refine lv_goto (tgt := 73) hx hb d_Mo_isThere_69 (by decide) ?_
            refine lv_istore (lv' := [(4, .int 1), (0, .ref (ad 5)), (1, .int x1), (2, .int x2), (3, .int x3), (5, .int x5)]) hx hb d_Mo_isThere_73 hl (by decide) rfl (fun ls hl => ?_)
            obtain ⟨v19, ev19, hg⟩ := tq_lj_s hg
            refine lv_iinc (v := v19) (lv' := [(5, .int v19), (4, .int 1), (0, .ref (ad 5)), (1, .int x1), (2, .int x2), (3, .int x3)]) hx hb d_Mo_isThere_75 hl (k := 5) rfl (by rw [ev19]; rfl) (by decide) rfl (fun ls hl => ?_)
            refine lv_goto (tgt := 6) hx hb d_Mo_isThere_78 (by decide) ?_
            exact ih.2.1 hP hD hS (lv_sub hl [2, 3, 4, 5, 1, 0] rfl) (tq_gi hg hn)
  exact (key n0).1 hP hD hS hl h0
noncomputable def bk_Mo_turn_0 : List Int32 → List Int64 → tq_S → Option tq_C
  | [x1], [], σ => some (4, [x1, 0, 0], [], σ)
  | _, _, _ => none
noncomputable def bk_Mo_turn_4 : List Int32 → List Int64 → tq_S → Option tq_C
  | [x1, x2, x3], [], σ => tq_ob (tq_fI st_Mo_size (0, [], [], σ)) (fun r2 σ3 => if r2 ≤ x3 then tq_gb x2 (some (tq_rt, [x2], [], σ3)) else tq_gd x3 1024 (if (ia σ3 31 x3) = 0 then some (30, [x1, x2, x3, 1, 0], [], σ3) else tq_lj (x3 + 1) (fun v8 => some (4, [x1, x2, v8], [], σ3))))
  | _, _, _ => none
noncomputable def bk_Mo_turn_30 : List Int32 → List Int64 → tq_S → Option tq_C
  | [x1, x2, x3, x4, x5], [], σ => if (σ.2.2 14) ≤ x5 then some (103, [x1, x2, x3, x4], [], σ) else if x4 = 0 then some (103, [x1, x2, x3, x4], [], σ) else tq_gd x5 10 (tq_gd (ia σ 20 x5) 80 (if ¬ (ia σ 17 (ia σ 20 x5)) = 6 then tq_lj (x5 + 1) (fun v14 => some (30, [x1, x2, x3, x4, v14], [], σ)) else if ¬ ((x3 >>> (x5 &&& 31)) &&& 1) = 1 then tq_lj (x5 + 1) (fun v16 => some (30, [x1, x2, x3, x4, v16], [], σ)) else tq_gd x5 10 (tq_gd (ia σ 20 x5) 80 (tq_ob (tq_fI st_Mo_forbids (0, [x3, (ia σ 18 (ia σ 20 x5))], [], σ)) (fun r20 σ21 => tq_ob (tq_fI st_Mo_isThere (0, [r20, x5, x1], [], σ21)) (fun r23 σ24 => tq_lj (x5 + 1) (fun v25 => some (30, [x1, x2, x3, r23, v25], [], σ24))))))))
  | _, _, _ => none
noncomputable def bk_Mo_turn_103 : List Int32 → List Int64 → tq_S → Option tq_C
  | [x1, x2, x3, x4], [], σ => if x4 = 0 then tq_gd x3 1024 (tq_lj (iput σ 31 x3.toNatClampNeg x1) (fun σ28 => tq_lj (x3 + 1) (fun v29 => some (4, [x1, 1, v29], [], σ28)))) else tq_lj (x3 + 1) (fun v30 => some (4, [x1, x2, v30], [], σ))
  | _, _, _ => none
noncomputable def st_Mo_turn (c : tq_C) : Option tq_C := if c.1 = 0 then bk_Mo_turn_0 c.2.1 c.2.2.1 c.2.2.2 else if c.1 = 4 then bk_Mo_turn_4 c.2.1 c.2.2.1 c.2.2.2 else if c.1 = 30 then bk_Mo_turn_30 c.2.1 c.2.2.1 c.2.2.2 else if c.1 = 103 then bk_Mo_turn_103 c.2.1 c.2.2.1 c.2.2.2 else none
set_option maxHeartbeats 40000000 in
set_option maxRecDepth 100000 in
theorem c_Mo_turn (l : Launch) (dC : Nat → ClassId) (dI : Nat → Nat → Nat) (cI cL cZ : ClassId) (ad : Nat → Nat) (tt : Nat) (sz : Nat) (σ : tq_S) (a1 : Int32) (r : Int32) (σ' : tq_S) (hf : tq_fI st_Mo_turn (0, [a1], [], σ) = some (r, σ')) : Met l y_Mo_turn w_Mo_turn ({ frames := 2, cells := 0, slots := 0, locals := 45 } : Room) (va_Pc [.ref (ad 5), .int a1] (tq_B dC dI cI cL cZ tt (wo cI cL cZ ad σ) sz)) (va_Qi (fun (r' : Int32) (u : tq_S) => r' = r ∧ u = σ') (tq_E dC dI cI cL cZ (wo cI cL cZ ad) (va_A (wo cI cL cZ ad σ) sz)) (va_A (wo cI cL cZ ad σ) sz)) 0 0 (va_A (wo cI cL cZ ad σ) sz) := by
  obtain ⟨n0, h0⟩ := tq_fI_to hf
  refine Met.ofW (cc := prog_7_method_22_code) (maxL := 6) (ret := (some .boolean)) (by decide) rfl ?_
  intro p e s m args below meth c s₁ B hml hv
  obtain ⟨rfl, hsz, hP, hK, hD0, hZ, hN⟩ := hv
  have hx := B.exec
  have hb := B.bytes
  have hr := B.returns
  have hts : ∀ w ∈ tq_T, w.before _ s = true := fun w h => atoms_spec (ws := w_Mo_turn) B.pre w (List.mem_cons_of_mem _ h)
  have hown : s.vm.findClass "TableauNodesModel" = some m.cls := findClass_of_methodNamed B.named
  have hlocks := B.notSynchronized
  subst hsz
  have hD := hD0.self (sz := s.heap.size)
  have hS : va_S (va_A (wo cI cL cZ ad σ) s.heap.size) s.heap s.heap [] := va_S.rf
  have hA : ∀ q : Nat, s.heap.size ≤ q → va_A (wo cI cL cZ ad σ) s.heap.size q := fun q h => Or.inr h
  generalize va_A (wo cI cL cZ ad σ) s.heap.size = A at hD hS hA hZ ⊢
  have hl := lv_entry ([.ref (ad 5), .int a1]) (n := 6) (Nat.le_of_ble_eq_true rfl)
  rw [lg_entry_eq]
  generalize (lg_sl ([.ref (ad 5), .int a1]) ++ List.replicate (6 - (lg_sl ([.ref (ad 5), .int a1])).length) Slot.unset).toArray = ls at hl ⊢
  have hl : lv_has ls 6 [(0, .ref (ad 5)), (1, .int a1)] := hl
  have key : ∀ n : Nat, (∀ {x1 : Int32} {σ : tq_S} {H : Heap} {locs : List Loc} {ls : Array Slot}, va_P (dC, dI) tq_cl (wo cI cL cZ ad σ) H → va_D A (wo cI cL cZ ad σ) → va_S A s.heap H locs → lv_has ls 6 [(0, .ref (ad 5)), (1, .int x1)] → tq_go st_Mo_turn n (0, [x1], [], σ) = some (tq_rt, [r], [], σ') → W p l e (headSpec w_Mo_turn ({ frames := 2, cells := 0, slots := 0, locals := 45 } : Room)).room s m ([.ref (ad 5), .int a1] : List Value).toArray below meth c H locs 0 0 (MQ below (va_Qi (fun (r' : Int32) (u : tq_S) => r' = r ∧ u = σ') (tq_E dC dI cI cL cZ (wo cI cL cZ ad) A) A) ([.ref (ad 5), .int a1] : List Value).toArray s 0 0 A) (F0 m 0 ls [])) ∧ (∀ {x1 x2 x3 : Int32} {σ : tq_S} {H : Heap} {locs : List Loc} {ls : Array Slot}, va_P (dC, dI) tq_cl (wo cI cL cZ ad σ) H → va_D A (wo cI cL cZ ad σ) → va_S A s.heap H locs → lv_has ls 6 [(0, .ref (ad 5)), (1, .int x1), (2, .int x2), (3, .int x3)] → tq_go st_Mo_turn n (4, [x1, x2, x3], [], σ) = some (tq_rt, [r], [], σ') → W p l e (headSpec w_Mo_turn ({ frames := 2, cells := 0, slots := 0, locals := 45 } : Room)).room s m ([.ref (ad 5), .int a1] : List Value).toArray below meth c H locs 0 0 (MQ below (va_Qi (fun (r' : Int32) (u : tq_S) => r' = r ∧ u = σ') (tq_E dC dI cI cL cZ (wo cI cL cZ ad) A) A) ([.ref (ad 5), .int a1] : List Value).toArray s 0 0 A) (F0 m 4 ls [])) ∧ (∀ {x1 x2 x3 x4 x5 : Int32} {σ : tq_S} {H : Heap} {locs : List Loc} {ls : Array Slot}, va_P (dC, dI) tq_cl (wo cI cL cZ ad σ) H → va_D A (wo cI cL cZ ad σ) → va_S A s.heap H locs → lv_has ls 6 [(0, .ref (ad 5)), (1, .int x1), (2, .int x2), (3, .int x3), (4, .int x4), (5, .int x5)] → tq_go st_Mo_turn n (30, [x1, x2, x3, x4, x5], [], σ) = some (tq_rt, [r], [], σ') → W p l e (headSpec w_Mo_turn ({ frames := 2, cells := 0, slots := 0, locals := 45 } : Room)).room s m ([.ref (ad 5), .int a1] : List Value).toArray below meth c H locs 0 0 (MQ below (va_Qi (fun (r' : Int32) (u : tq_S) => r' = r ∧ u = σ') (tq_E dC dI cI cL cZ (wo cI cL cZ ad) A) A) ([.ref (ad 5), .int a1] : List Value).toArray s 0 0 A) (F0 m 30 ls [])) ∧ (∀ {x1 x2 x3 x4 : Int32} {σ : tq_S} {H : Heap} {locs : List Loc} {ls : Array Slot}, va_P (dC, dI) tq_cl (wo cI cL cZ ad σ) H → va_D A (wo cI cL cZ ad σ) → va_S A s.heap H locs → lv_has ls 6 [(0, .ref (ad 5)), (1, .int x1), (2, .int x2), (3, .int x3), (4, .int x4)] → tq_go st_Mo_turn n (103, [x1, x2, x3, x4], [], σ) = some (tq_rt, [r], [], σ') → W p l e (headSpec w_Mo_turn ({ frames := 2, cells := 0, slots := 0, locals := 45 } : Room)).room s m ([.ref (ad 5), .int a1] : List Value).toArray below meth c H locs 0 0 (MQ below (va_Qi (fun (r' : Int32) (u : tq_S) => r' = r ∧ u = σ') (tq_E dC dI cI cL cZ (wo cI cL cZ ad) A) A) ([.ref (ad 5), .int a1] : List Value).toArray s 0 0 A) (F0 m 103 ls [])) := by
    intro n
    induction n with
    | zero => exact ⟨(fun _ _ _ _ h => by cases h), (fun _ _ _ _ h => by cases h), (fun _ _ _ _ h => by cases h), (fun _ _ _ _ h => by cases h)⟩
    | succ n ih =>
      refine ⟨?_, ?_, ?_, ?_⟩
      · intro x1 σ H locs ls hP hD hS hl h9
        obtain ⟨q9, hg, hn⟩ := tq_go_s h9 (show ¬ (0 : Nat) = tq_rt by decide)
        replace hg : bk_Mo_turn_0 [x1] [] σ = some q9 := hg
        unfold bk_Mo_turn_0 at hg
        refine lv_iconst (v := 0) hx hb d_Mo_turn_0 (by decide) ?_
        refine lv_istore_n (lv' := [(2, .int 0), (0, .ref (ad 5)), (1, .int x1)]) hx hb d_Mo_turn_1 rfl hl (by decide) rfl (fun ls hl => ?_)
        refine lv_iconst (v := 0) hx hb d_Mo_turn_2 (by decide) ?_
        refine lv_istore_n (lv' := [(3, .int 0), (2, .int 0), (0, .ref (ad 5)), (1, .int x1)]) hx hb d_Mo_turn_3 rfl hl (by decide) rfl (fun ls hl => ?_)
        exact ih.2.1 hP hD hS (lv_sub hl [2, 3, 1, 0] rfl) (tq_gi hg hn)
      · intro x1 x2 x3 σ H locs ls hP hD hS hl h9
        obtain ⟨q9, hg, hn⟩ := tq_go_s h9 (show ¬ (4 : Nat) = tq_rt by decide)
        replace hg : bk_Mo_turn_4 [x1, x2, x3] [] σ = some q9 := hg
        unfold bk_Mo_turn_4 at hg
        refine lv_iload_n hx hb d_Mo_turn_4 rfl (lv_at hl 3 rfl) ?_
        refine lv_aload_n hx hb d_Mo_turn_5 rfl (lv_at hl 0 rfl) ?_
        obtain ⟨r2, σ3, f1, hg⟩ := tq_ob_s hg
        refine tq_aI (va_runV (As := []) (rest := [.int x3]) ⟨hx, hb, hml, hown, hts⟩ (c_Mo_size l dC dI cI cL cZ ad tt H.size σ   r2 σ3 f1) (cwV 0 hts (tq_gV tw_731 tw_733 ts_36 tw_6 tw_734) rfl rfl rfl (by decide +kernel) ⟨Nat.le_of_ble_eq_true rfl, Nat.le_of_ble_eq_true rfl⟩) ⟨tq_bl, va_recv hK hP (ci := 5) (q0 := 5) rfl rfl, (tq_pr hP hK hD hS hA hZ hN)⟩ rfl rfl hl.1 rfl (lv_room (Nat.le_of_ble_eq_true rfl)) d_Mo_turn_6 ⟨Nat.zero_le _, Nat.zero_le _⟩) hD hS hA (fun H locs hP hD hS => ?_)
        refine lv_icmp_ge (tgt := 126) hx hb d_Mo_turn_9 (by decide) (fun c4 => ?_) (fun c4 => ?_)
        · replace hg := tq_if_t c4 hg
          refine lv_iload_n hx hb d_Mo_turn_126 rfl (lv_at hl 2 rfl) ?_
          obtain ⟨b5, hg⟩ := tq_gb_s hg
          exact W.zret (v := x2) hx hb hr (tq_nb b5) (fun t ht hW => ⟨⟨x2, σ3, rfl, tq_grI hg hn, by rw [ht]; exact hP, va_K.moved hW.alike hK, hD⟩, hS.F ht⟩) hS.2.2 d_Mo_turn_127
        · replace hg := tq_if_f c4 hg
          refine lv_aload_n hx hb d_Mo_turn_12 rfl (lv_at hl 0 rfl) ?_
          refine va_get (D := (dC, dI)) (ci := 5) (v := .ref (ad 44)) (C := "TableauNodesModel") (T := F_Mo) (N := 25) hx hb hts in_Mo hown hK hP 5 rfl rfl 20 (by decide) (hts _ tw_619) (fun _ h9 => h9) rfl d_Mo_turn_13 ?_
          refine lv_iload_n hx hb d_Mo_turn_16 rfl (lv_at hl 3 rfl) ?_
          obtain ⟨g6, hg⟩ := tq_gd_s hg
          refine va_iald hx hb hK hP 44 0 rfl rfl g6 d_Mo_turn_17 ?_
          refine lv_if_eq (tgt := 24) hx hb d_Mo_turn_18 (by decide) (fun c7 => ?_) (fun c7 => ?_)
          · replace hg := tq_if_t c7 hg
            refine lv_iconst (v := 1) hx hb d_Mo_turn_24 (by decide) ?_
            refine lv_istore (lv' := [(4, .int 1), (0, .ref (ad 5)), (1, .int x1), (2, .int x2), (3, .int x3)]) hx hb d_Mo_turn_25 hl (by decide) rfl (fun ls hl => ?_)
            refine lv_iconst (v := 0) hx hb d_Mo_turn_27 (by decide) ?_
            refine lv_istore (lv' := [(5, .int 0), (4, .int 1), (0, .ref (ad 5)), (1, .int x1), (2, .int x2), (3, .int x3)]) hx hb d_Mo_turn_28 hl (by decide) rfl (fun ls hl => ?_)
            exact ih.2.2.1 hP hD hS (lv_sub hl [2, 3, 4, 5, 1, 0] rfl) (tq_gi hg hn)
          · replace hg := tq_if_f c7 hg
            refine lv_goto (tgt := 120) hx hb d_Mo_turn_21 (by decide) ?_
            obtain ⟨v8, ev8, hg⟩ := tq_lj_s hg
            refine lv_iinc (v := v8) (lv' := [(3, .int v8), (0, .ref (ad 5)), (1, .int x1), (2, .int x2)]) hx hb d_Mo_turn_120 hl (k := 3) rfl (by rw [ev8]; rfl) (by decide) rfl (fun ls hl => ?_)
            refine lv_goto (tgt := 4) hx hb d_Mo_turn_123 (by decide) ?_
            exact ih.2.1 hP hD hS (lv_sub hl [1, 2, 3, 0] rfl) (tq_gi hg hn)
      · intro x1 x2 x3 x4 x5 σ H locs ls hP hD hS hl h9
        obtain ⟨q9, hg, hn⟩ := tq_go_s h9 (show ¬ (30 : Nat) = tq_rt by decide)
        replace hg : bk_Mo_turn_30 [x1, x2, x3, x4, x5] [] σ = some q9 := hg
        unfold bk_Mo_turn_30 at hg
        refine lv_iload hx hb d_Mo_turn_30 (lv_at hl 5 rfl) ?_
        refine lv_aload_n hx hb d_Mo_turn_32 rfl (lv_at hl 0 rfl) ?_
        refine va_get (D := (dC, dI)) (ci := 5) (v := .int (σ.2.2 14)) (C := "TableauNodesModel") (T := F_Mo) (N := 25) hx hb hts in_Mo hown hK hP 5 rfl rfl 5 (by decide) (hts _ tw_604) (fun _ h9 => h9) rfl d_Mo_turn_33 ?_
        refine lv_icmp_ge (tgt := 103) hx hb d_Mo_turn_36 (by decide) (fun c9 => ?_) (fun c9 => ?_)
        · replace hg := tq_if_t c9 hg
          exact ih.2.2.2 hP hD hS (lv_sub hl [0, 1, 2, 3, 4] rfl) (tq_gi hg hn)
        · replace hg := tq_if_f c9 hg
          refine lv_iload hx hb d_Mo_turn_39 (lv_at hl 4 rfl) ?_
          refine lv_if_eq (tgt := 103) hx hb d_Mo_turn_41 (by decide) (fun c10 => ?_) (fun c10 => ?_)
          · replace hg := tq_if_t c10 hg
            exact ih.2.2.2 hP hD hS (lv_sub hl [0, 1, 2, 3, 4] rfl) (tq_gi hg hn)
          · replace hg := tq_if_f c10 hg
            refine lv_aload_n hx hb d_Mo_turn_44 rfl (lv_at hl 0 rfl) ?_
            refine va_get (D := (dC, dI)) (ci := 5) (v := .ref (ad 30)) (C := "TableauNodesModel") (T := F_Mo) (N := 25) hx hb hts in_Mo hown hK hP 5 rfl rfl 0 (by decide) (hts _ tw_599) (fun _ h9 => h9) rfl d_Mo_turn_45 ?_
            refine lv_aload_n hx hb d_Mo_turn_48 rfl (lv_at hl 0 rfl) ?_
            refine va_get (D := (dC, dI)) (ci := 5) (v := .ref (ad 33)) (C := "TableauNodesModel") (T := F_Mo) (N := 25) hx hb hts in_Mo hown hK hP 5 rfl rfl 4 (by decide) (hts _ tw_603) (fun _ h9 => h9) rfl d_Mo_turn_49 ?_
            refine lv_iload hx hb d_Mo_turn_52 (lv_at hl 5 rfl) ?_
            obtain ⟨g11, hg⟩ := tq_gd_s hg
            refine va_iald hx hb hK hP 33 0 rfl rfl g11 d_Mo_turn_54 ?_
            obtain ⟨g12, hg⟩ := tq_gd_s hg
            refine va_iald hx hb hK hP 30 0 rfl rfl g12 d_Mo_turn_55 ?_
            refine lv_bipush (v := 6) hx hb d_Mo_turn_56 (by decide) ?_
            refine lv_icmp_ne (tgt := 97) hx hb d_Mo_turn_58 (by decide) (fun c13 => ?_) (fun c13 => ?_)
            · replace hg := tq_if_t c13 hg
              obtain ⟨v14, ev14, hg⟩ := tq_lj_s hg
              refine lv_iinc (v := v14) (lv' := [(5, .int v14), (0, .ref (ad 5)), (1, .int x1), (2, .int x2), (3, .int x3), (4, .int x4)]) hx hb d_Mo_turn_97 hl (k := 5) rfl (by rw [ev14]; rfl) (by decide) rfl (fun ls hl => ?_)
              refine lv_goto (tgt := 30) hx hb d_Mo_turn_100 (by decide) ?_
              exact ih.2.2.1 hP hD hS (lv_sub hl [1, 2, 3, 4, 5, 0] rfl) (tq_gi hg hn)
            · replace hg := tq_if_n c13 hg
              refine lv_iload_n hx hb d_Mo_turn_61 rfl (lv_at hl 3 rfl) ?_
              refine lv_iload hx hb d_Mo_turn_62 (lv_at hl 5 rfl) ?_
              refine lv_ishr hx hb d_Mo_turn_64 ?_
              refine lv_iconst (v := 1) hx hb d_Mo_turn_65 (by decide) ?_
              refine lv_iand hx hb d_Mo_turn_66 ?_
              refine lv_iconst (v := 1) hx hb d_Mo_turn_67 (by decide) ?_
              refine lv_icmp_ne (tgt := 97) hx hb d_Mo_turn_68 (by decide) (fun c15 => ?_) (fun c15 => ?_)
              · replace hg := tq_if_t c15 hg
                obtain ⟨v16, ev16, hg⟩ := tq_lj_s hg
                refine lv_iinc (v := v16) (lv' := [(5, .int v16), (0, .ref (ad 5)), (1, .int x1), (2, .int x2), (3, .int x3), (4, .int x4)]) hx hb d_Mo_turn_97 hl (k := 5) rfl (by rw [ev16]; rfl) (by decide) rfl (fun ls hl => ?_)
                refine lv_goto (tgt := 30) hx hb d_Mo_turn_100 (by decide) ?_
                exact ih.2.2.1 hP hD hS (lv_sub hl [1, 2, 3, 4, 5, 0] rfl) (tq_gi hg hn)
              · replace hg := tq_if_n c15 hg
                refine lv_aload_n hx hb d_Mo_turn_71 rfl (lv_at hl 0 rfl) ?_
                refine lv_aload_n hx hb d_Mo_turn_72 rfl (lv_at hl 0 rfl) ?_
                refine lv_iload_n hx hb d_Mo_turn_73 rfl (lv_at hl 3 rfl) ?_
                refine lv_aload_n hx hb d_Mo_turn_74 rfl (lv_at hl 0 rfl) ?_
                refine va_get (D := (dC, dI)) (ci := 5) (v := .ref (ad 31)) (C := "TableauNodesModel") (T := F_Mo) (N := 25) hx hb hts in_Mo hown hK hP 5 rfl rfl 1 (by decide) (hts _ tw_600) (fun _ h9 => h9) rfl d_Mo_turn_75 ?_
                refine lv_aload_n hx hb d_Mo_turn_78 rfl (lv_at hl 0 rfl) ?_
                refine va_get (D := (dC, dI)) (ci := 5) (v := .ref (ad 33)) (C := "TableauNodesModel") (T := F_Mo) (N := 25) hx hb hts in_Mo hown hK hP 5 rfl rfl 4 (by decide) (hts _ tw_603) (fun _ h9 => h9) rfl d_Mo_turn_79 ?_
                refine lv_iload hx hb d_Mo_turn_82 (lv_at hl 5 rfl) ?_
                obtain ⟨g17, hg⟩ := tq_gd_s hg
                refine va_iald hx hb hK hP 33 0 rfl rfl g17 d_Mo_turn_84 ?_
                obtain ⟨g18, hg⟩ := tq_gd_s hg
                refine va_iald hx hb hK hP 31 0 rfl rfl g18 d_Mo_turn_85 ?_
                obtain ⟨r20, σ21, f19, hg⟩ := tq_ob_s hg
                refine tq_aI (va_runV (As := [.int x3, .int (ia σ 18 (ia σ 20 x5))]) (rest := [.ref (ad 5)]) ⟨hx, hb, hml, hown, hts⟩ (c_Mo_forbids l dC dI cI cL cZ ad tt H.size σ x3 (ia σ 18 (ia σ 20 x5))  r20 σ21 f19) (cwV 2 hts (tq_gV tw_751 tw_753 ts_41 tw_6 tw_754) rfl rfl rfl (by decide +kernel) ⟨Nat.le_of_ble_eq_true rfl, Nat.le_of_ble_eq_true rfl⟩) ⟨tq_bl, va_recv hK hP (ci := 5) (q0 := 5) rfl rfl, (tq_pr hP hK hD hS hA hZ hN)⟩ rfl rfl hl.1 rfl (lv_room (Nat.le_of_ble_eq_true rfl)) d_Mo_turn_86 ⟨Nat.zero_le _, Nat.zero_le _⟩) hD hS hA (fun H locs hP hD hS => ?_)
                refine lv_iload hx hb d_Mo_turn_89 (lv_at hl 5 rfl) ?_
                refine lv_iload_n hx hb d_Mo_turn_91 rfl (lv_at hl 1 rfl) ?_
                obtain ⟨r23, σ24, f22, hg⟩ := tq_ob_s hg
                refine tq_aI (va_runV (As := [.int r20, .int x5, .int x1]) (rest := []) ⟨hx, hb, hml, hown, hts⟩ (c_Mo_isThere l dC dI cI cL cZ ad tt H.size σ21 r20 x5 x1  r23 σ24 f22) (cwV 3 hts (tq_gV tw_755 tw_757 ts_42 tw_6 tw_758) rfl rfl rfl (by decide +kernel) ⟨Nat.le_of_ble_eq_true rfl, Nat.le_of_ble_eq_true rfl⟩) ⟨tq_bl, va_recv hK hP (ci := 5) (q0 := 5) rfl rfl, (tq_pr hP hK hD hS hA hZ hN)⟩ rfl rfl hl.1 rfl (lv_room (Nat.le_of_ble_eq_true rfl)) d_Mo_turn_92 ⟨Nat.zero_le _, Nat.zero_le _⟩) hD hS hA (fun H locs hP hD hS => ?_)
                refine lv_istore (lv' := [(4, .int r23), (0, .ref (ad 5)), (1, .int x1), (2, .int x2), (3, .int x3), (5, .int x5)]) hx hb d_Mo_turn_95 hl (by decide) rfl (fun ls hl => ?_)
                obtain ⟨v25, ev25, hg⟩ := tq_lj_s hg
                refine lv_iinc (v := v25) (lv' := [(5, .int v25), (4, .int r23), (0, .ref (ad 5)), (1, .int x1), (2, .int x2), (3, .int x3)]) hx hb d_Mo_turn_97 hl (k := 5) rfl (by rw [ev25]; rfl) (by decide) rfl (fun ls hl => ?_)
                refine lv_goto (tgt := 30) hx hb d_Mo_turn_100 (by decide) ?_
                exact ih.2.2.1 hP hD hS (lv_sub hl [2, 3, 4, 5, 1, 0] rfl) (tq_gi hg hn)
      · intro x1 x2 x3 x4 σ H locs ls hP hD hS hl h9
        obtain ⟨q9, hg, hn⟩ := tq_go_s h9 (show ¬ (103 : Nat) = tq_rt by decide)
        replace hg : bk_Mo_turn_103 [x1, x2, x3, x4] [] σ = some q9 := hg
        unfold bk_Mo_turn_103 at hg
        refine lv_iload hx hb d_Mo_turn_103 (lv_at hl 4 rfl) ?_
        refine lv_if_eq (tgt := 111) hx hb d_Mo_turn_105 (by decide) (fun c26 => ?_) (fun c26 => ?_)
        · replace hg := tq_if_t c26 hg
          refine lv_aload_n hx hb d_Mo_turn_111 rfl (lv_at hl 0 rfl) ?_
          refine va_get (D := (dC, dI)) (ci := 5) (v := .ref (ad 44)) (C := "TableauNodesModel") (T := F_Mo) (N := 25) hx hb hts in_Mo hown hK hP 5 rfl rfl 20 (by decide) (hts _ tw_619) (fun _ h9 => h9) rfl d_Mo_turn_112 ?_
          refine lv_iload_n hx hb d_Mo_turn_115 rfl (lv_at hl 3 rfl) ?_
          refine lv_iload_n hx hb d_Mo_turn_116 rfl (lv_at hl 1 rfl) ?_
          obtain ⟨g27, hg⟩ := tq_gd_s hg
          refine va_iast hx hb hK hP hD hS 44 0 rfl rfl g27 d_Mo_turn_117 (fun H locs hP hD hS => ?_)
          obtain ⟨σ28, eσ28, hg⟩ := tq_lj_s hg
          replace hP : va_P (dC, dI) tq_cl (wo cI cL cZ ad σ28) H := by rw [eσ28, ← ws_i31]; exact hP
          replace hD : va_D A (wo cI cL cZ ad σ28) := by rw [eσ28, ← ws_i31]; exact hD
          refine lv_iconst (v := 1) hx hb d_Mo_turn_118 (by decide) ?_
          refine lv_istore_n (lv' := [(2, .int 1), (0, .ref (ad 5)), (1, .int x1), (3, .int x3), (4, .int x4)]) hx hb d_Mo_turn_119 rfl hl (by decide) rfl (fun ls hl => ?_)
          obtain ⟨v29, ev29, hg⟩ := tq_lj_s hg
          refine lv_iinc (v := v29) (lv' := [(3, .int v29), (2, .int 1), (0, .ref (ad 5)), (1, .int x1), (4, .int x4)]) hx hb d_Mo_turn_120 hl (k := 3) rfl (by rw [ev29]; rfl) (by decide) rfl (fun ls hl => ?_)
          refine lv_goto (tgt := 4) hx hb d_Mo_turn_123 (by decide) ?_
          exact ih.2.1 hP hD hS (lv_sub hl [2, 3, 1, 0] rfl) (tq_gi hg hn)
        · replace hg := tq_if_f c26 hg
          refine lv_goto (tgt := 120) hx hb d_Mo_turn_108 (by decide) ?_
          obtain ⟨v30, ev30, hg⟩ := tq_lj_s hg
          refine lv_iinc (v := v30) (lv' := [(3, .int v30), (0, .ref (ad 5)), (1, .int x1), (2, .int x2), (4, .int x4)]) hx hb d_Mo_turn_120 hl (k := 3) rfl (by rw [ev30]; rfl) (by decide) rfl (fun ls hl => ?_)
          refine lv_goto (tgt := 4) hx hb d_Mo_turn_123 (by decide) ?_
          exact ih.2.1 hP hD hS (lv_sub hl [1, 2, 3, 0] rfl) (tq_gi hg hn)
  exact (key n0).1 hP hD hS hl h0
