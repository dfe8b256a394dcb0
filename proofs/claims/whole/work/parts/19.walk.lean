theorem d_Mo_at_0 : decode prog_7_method_32_code 0 = .ok (.sipush 1024, 3) := by decide +kernel
theorem d_Mo_at_3 : decode prog_7_method_32_code 3 = .ok (.iconst 5, 1) := by decide +kernel
theorem d_Mo_at_4 : decode prog_7_method_32_code 4 = .ok (.iload_n 0, 1) := by decide +kernel
theorem d_Mo_at_5 : decode prog_7_method_32_code 5 = .ok (.imul, 1) := by decide +kernel
theorem d_Mo_at_6 : decode prog_7_method_32_code 6 = .ok (.iload_n 1, 1) := by decide +kernel
theorem d_Mo_at_7 : decode prog_7_method_32_code 7 = .ok (.iadd, 1) := by decide +kernel
theorem d_Mo_at_8 : decode prog_7_method_32_code 8 = .ok (.imul, 1) := by decide +kernel
theorem d_Mo_at_9 : decode prog_7_method_32_code 9 = .ok (.iload_n 2, 1) := by decide +kernel
theorem d_Mo_at_10 : decode prog_7_method_32_code 10 = .ok (.iadd, 1) := by decide +kernel
theorem d_Mo_at_11 : decode prog_7_method_32_code 11 = .ok (.ireturn, 1) := by decide +kernel
theorem d_Mo_isSaid_0 : decode prog_7_method_34_code 0 = .ok (.iconst 1, 1) := by decide +kernel
theorem d_Mo_isSaid_1 : decode prog_7_method_34_code 1 = .ok (.istore_n 3, 1) := by decide +kernel
theorem d_Mo_isSaid_2 : decode prog_7_method_34_code 2 = .ok (.iconst 0, 1) := by decide +kernel
theorem d_Mo_isSaid_3 : decode prog_7_method_34_code 3 = .ok (.istore 4, 2) := by decide +kernel
theorem d_Mo_isSaid_5 : decode prog_7_method_34_code 5 = .ok (.iload 4, 2) := by decide +kernel
theorem d_Mo_isSaid_7 : decode prog_7_method_34_code 7 = .ok (.aload_n 0, 1) := by decide +kernel
theorem d_Mo_isSaid_8 : decode prog_7_method_34_code 8 = .ok (.getfield 129, 3) := by decide +kernel
theorem d_Mo_isSaid_11 : decode prog_7_method_34_code 11 = .ok (.if_icmp .ge 45, 3) := by decide +kernel
theorem d_Mo_isSaid_14 : decode prog_7_method_34_code 14 = .ok (.iload_n 3, 1) := by decide +kernel
theorem d_Mo_isSaid_15 : decode prog_7_method_34_code 15 = .ok (.ifCond .eq 41, 3) := by decide +kernel
theorem d_Mo_isSaid_18 : decode prog_7_method_34_code 18 = .ok (.aload_n 0, 1) := by decide +kernel
theorem d_Mo_isSaid_19 : decode prog_7_method_34_code 19 = .ok (.getfield 32, 3) := by decide +kernel
theorem d_Mo_isSaid_22 : decode prog_7_method_34_code 22 = .ok (.iload 4, 2) := by decide +kernel
theorem d_Mo_isSaid_24 : decode prog_7_method_34_code 24 = .ok (.iaload, 1) := by decide +kernel
theorem d_Mo_isSaid_25 : decode prog_7_method_34_code 25 = .ok (.iload_n 1, 1) := by decide +kernel
theorem d_Mo_isSaid_26 : decode prog_7_method_34_code 26 = .ok (.if_icmp .ne 18, 3) := by decide +kernel
theorem d_Mo_isSaid_29 : decode prog_7_method_34_code 29 = .ok (.aload_n 0, 1) := by decide +kernel
theorem d_Mo_isSaid_30 : decode prog_7_method_34_code 30 = .ok (.iload_n 2, 1) := by decide +kernel
theorem d_Mo_isSaid_31 : decode prog_7_method_34_code 31 = .ok (.aload_n 0, 1) := by decide +kernel
theorem d_Mo_isSaid_32 : decode prog_7_method_34_code 32 = .ok (.getfield 35, 3) := by decide +kernel
theorem d_Mo_isSaid_35 : decode prog_7_method_34_code 35 = .ok (.iload 4, 2) := by decide +kernel
theorem d_Mo_isSaid_37 : decode prog_7_method_34_code 37 = .ok (.iaload, 1) := by decide +kernel
theorem d_Mo_isSaid_38 : decode prog_7_method_34_code 38 = .ok (.invokevirtual 98, 3) := by decide +kernel
theorem d_Mo_isSaid_41 : decode prog_7_method_34_code 41 = .ok (.ifCond .eq 7, 3) := by decide +kernel
theorem d_Mo_isSaid_44 : decode prog_7_method_34_code 44 = .ok (.iconst 1, 1) := by decide +kernel
theorem d_Mo_isSaid_45 : decode prog_7_method_34_code 45 = .ok (.goto 4, 3) := by decide +kernel
theorem d_Mo_isSaid_48 : decode prog_7_method_34_code 48 = .ok (.iconst 0, 1) := by decide +kernel
theorem d_Mo_isSaid_49 : decode prog_7_method_34_code 49 = .ok (.istore_n 3, 1) := by decide +kernel
theorem d_Mo_isSaid_50 : decode prog_7_method_34_code 50 = .ok (.iinc 4 1, 3) := by decide +kernel
theorem d_Mo_isSaid_53 : decode prog_7_method_34_code 53 = .ok (.goto (-48), 3) := by decide +kernel
theorem d_Mo_isSaid_56 : decode prog_7_method_34_code 56 = .ok (.iconst 0, 1) := by decide +kernel
theorem d_Mo_isSaid_57 : decode prog_7_method_34_code 57 = .ok (.istore 4, 2) := by decide +kernel
theorem d_Mo_isSaid_59 : decode prog_7_method_34_code 59 = .ok (.iload 4, 2) := by decide +kernel
theorem d_Mo_isSaid_61 : decode prog_7_method_34_code 61 = .ok (.aload_n 0, 1) := by decide +kernel
theorem d_Mo_isSaid_62 : decode prog_7_method_34_code 62 = .ok (.getfield 132, 3) := by decide +kernel
theorem d_Mo_isSaid_65 : decode prog_7_method_34_code 65 = .ok (.if_icmp .ge 57, 3) := by decide +kernel
theorem d_Mo_isSaid_68 : decode prog_7_method_34_code 68 = .ok (.iload_n 3, 1) := by decide +kernel
theorem d_Mo_isSaid_69 : decode prog_7_method_34_code 69 = .ok (.ifCond .eq 53, 3) := by decide +kernel
theorem d_Mo_isSaid_72 : decode prog_7_method_34_code 72 = .ok (.aload_n 0, 1) := by decide +kernel
theorem d_Mo_isSaid_73 : decode prog_7_method_34_code 73 = .ok (.getfield 38, 3) := by decide +kernel
theorem d_Mo_isSaid_76 : decode prog_7_method_34_code 76 = .ok (.iload 4, 2) := by decide +kernel
theorem d_Mo_isSaid_78 : decode prog_7_method_34_code 78 = .ok (.iaload, 1) := by decide +kernel
theorem d_Mo_isSaid_79 : decode prog_7_method_34_code 79 = .ok (.iload_n 1, 1) := by decide +kernel
theorem d_Mo_isSaid_80 : decode prog_7_method_34_code 80 = .ok (.if_icmp .ne 30, 3) := by decide +kernel
theorem d_Mo_isSaid_83 : decode prog_7_method_34_code 83 = .ok (.aload_n 0, 1) := by decide +kernel
theorem d_Mo_isSaid_84 : decode prog_7_method_34_code 84 = .ok (.getfield 44, 3) := by decide +kernel
theorem d_Mo_isSaid_87 : decode prog_7_method_34_code 87 = .ok (.iload 4, 2) := by decide +kernel
theorem d_Mo_isSaid_89 : decode prog_7_method_34_code 89 = .ok (.iaload, 1) := by decide +kernel
theorem d_Mo_isSaid_90 : decode prog_7_method_34_code 90 = .ok (.iload_n 1, 1) := by decide +kernel
theorem d_Mo_isSaid_91 : decode prog_7_method_34_code 91 = .ok (.if_icmp .ne 19, 3) := by decide +kernel
theorem d_Mo_isSaid_94 : decode prog_7_method_34_code 94 = .ok (.aload_n 0, 1) := by decide +kernel
theorem d_Mo_isSaid_95 : decode prog_7_method_34_code 95 = .ok (.iload_n 2, 1) := by decide +kernel
theorem d_Mo_isSaid_96 : decode prog_7_method_34_code 96 = .ok (.iload_n 2, 1) := by decide +kernel
theorem d_Mo_isSaid_97 : decode prog_7_method_34_code 97 = .ok (.aload_n 0, 1) := by decide +kernel
theorem d_Mo_isSaid_98 : decode prog_7_method_34_code 98 = .ok (.getfield 41, 3) := by decide +kernel
theorem d_Mo_isSaid_101 : decode prog_7_method_34_code 101 = .ok (.iload 4, 2) := by decide +kernel
theorem d_Mo_isSaid_103 : decode prog_7_method_34_code 103 = .ok (.iaload, 1) := by decide +kernel
theorem d_Mo_isSaid_104 : decode prog_7_method_34_code 104 = .ok (.invokevirtual 144, 3) := by decide +kernel
theorem d_Mo_isSaid_107 : decode prog_7_method_34_code 107 = .ok (.ifCond .eq 7, 3) := by decide +kernel
theorem d_Mo_isSaid_110 : decode prog_7_method_34_code 110 = .ok (.iconst 1, 1) := by decide +kernel
theorem d_Mo_isSaid_111 : decode prog_7_method_34_code 111 = .ok (.goto 4, 3) := by decide +kernel
theorem d_Mo_isSaid_114 : decode prog_7_method_34_code 114 = .ok (.iconst 0, 1) := by decide +kernel
theorem d_Mo_isSaid_115 : decode prog_7_method_34_code 115 = .ok (.istore_n 3, 1) := by decide +kernel
theorem d_Mo_isSaid_116 : decode prog_7_method_34_code 116 = .ok (.iinc 4 1, 3) := by decide +kernel
theorem d_Mo_isSaid_119 : decode prog_7_method_34_code 119 = .ok (.goto (-60), 3) := by decide +kernel
theorem d_Mo_isSaid_122 : decode prog_7_method_34_code 122 = .ok (.iload_n 3, 1) := by decide +kernel
theorem d_Mo_isSaid_123 : decode prog_7_method_34_code 123 = .ok (.ireturn, 1) := by decide +kernel
theorem d_Mo_isLeft_0 : decode prog_7_method_35_code 0 = .ok (.iconst 1, 1) := by decide +kernel
theorem d_Mo_isLeft_1 : decode prog_7_method_35_code 1 = .ok (.istore_n 3, 1) := by decide +kernel
theorem d_Mo_isLeft_2 : decode prog_7_method_35_code 2 = .ok (.iload_n 1, 1) := by decide +kernel
theorem d_Mo_isLeft_3 : decode prog_7_method_35_code 3 = .ok (.iconst 1, 1) := by decide +kernel
theorem d_Mo_isLeft_4 : decode prog_7_method_35_code 4 = .ok (.iadd, 1) := by decide +kernel
theorem d_Mo_isLeft_5 : decode prog_7_method_35_code 5 = .ok (.istore 4, 2) := by decide +kernel
theorem d_Mo_isLeft_7 : decode prog_7_method_35_code 7 = .ok (.iload 4, 2) := by decide +kernel
theorem d_Mo_isLeft_9 : decode prog_7_method_35_code 9 = .ok (.iconst 5, 1) := by decide +kernel
theorem d_Mo_isLeft_10 : decode prog_7_method_35_code 10 = .ok (.if_icmp .ge 190, 3) := by decide +kernel
theorem d_Mo_isLeft_13 : decode prog_7_method_35_code 13 = .ok (.iload_n 3, 1) := by decide +kernel
theorem d_Mo_isLeft_14 : decode prog_7_method_35_code 14 = .ok (.ifCond .eq 186, 3) := by decide +kernel
theorem d_Mo_isLeft_17 : decode prog_7_method_35_code 17 = .ok (.iconst 0, 1) := by decide +kernel
theorem d_Mo_isLeft_18 : decode prog_7_method_35_code 18 = .ok (.istore 5, 2) := by decide +kernel
theorem d_Mo_isLeft_20 : decode prog_7_method_35_code 20 = .ok (.iconst 0, 1) := by decide +kernel
theorem d_Mo_isLeft_21 : decode prog_7_method_35_code 21 = .ok (.istore 6, 2) := by decide +kernel
theorem d_Mo_isLeft_23 : decode prog_7_method_35_code 23 = .ok (.iload 6, 2) := by decide +kernel
theorem d_Mo_isLeft_25 : decode prog_7_method_35_code 25 = .ok (.aload_n 0, 1) := by decide +kernel
theorem d_Mo_isLeft_26 : decode prog_7_method_35_code 26 = .ok (.invokevirtual 102, 3) := by decide +kernel
theorem d_Mo_isLeft_29 : decode prog_7_method_35_code 29 = .ok (.if_icmp .ge 162, 3) := by decide +kernel
theorem d_Mo_isLeft_32 : decode prog_7_method_35_code 32 = .ok (.aload_n 0, 1) := by decide +kernel
theorem d_Mo_isLeft_33 : decode prog_7_method_35_code 33 = .ok (.getfield 60, 3) := by decide +kernel
theorem d_Mo_isLeft_36 : decode prog_7_method_35_code 36 = .ok (.iload_n 1, 1) := by decide +kernel
theorem d_Mo_isLeft_37 : decode prog_7_method_35_code 37 = .ok (.iload 4, 2) := by decide +kernel
theorem d_Mo_isLeft_39 : decode prog_7_method_35_code 39 = .ok (.iload 6, 2) := by decide +kernel
theorem d_Mo_isLeft_41 : decode prog_7_method_35_code 41 = .ok (.invokestatic 135, 3) := by decide +kernel
theorem d_Mo_isLeft_44 : decode prog_7_method_35_code 44 = .ok (.baload, 1) := by decide +kernel
theorem d_Mo_isLeft_45 : decode prog_7_method_35_code 45 = .ok (.istore 7, 2) := by decide +kernel
theorem d_Mo_isLeft_47 : decode prog_7_method_35_code 47 = .ok (.iconst 0, 1) := by decide +kernel
theorem d_Mo_isLeft_48 : decode prog_7_method_35_code 48 = .ok (.istore 8, 2) := by decide +kernel
theorem d_Mo_isLeft_50 : decode prog_7_method_35_code 50 = .ok (.iload 8, 2) := by decide +kernel
theorem d_Mo_isLeft_52 : decode prog_7_method_35_code 52 = .ok (.aload_n 0, 1) := by decide +kernel
theorem d_Mo_isLeft_53 : decode prog_7_method_35_code 53 = .ok (.getfield 132, 3) := by decide +kernel
theorem d_Mo_isLeft_56 : decode prog_7_method_35_code 56 = .ok (.if_icmp .ge 95, 3) := by decide +kernel
theorem d_Mo_isLeft_59 : decode prog_7_method_35_code 59 = .ok (.iload 7, 2) := by decide +kernel
theorem d_Mo_isLeft_61 : decode prog_7_method_35_code 61 = .ok (.ifCond .eq 90, 3) := by decide +kernel
theorem d_Mo_isLeft_64 : decode prog_7_method_35_code 64 = .ok (.aload_n 0, 1) := by decide +kernel
theorem d_Mo_isLeft_65 : decode prog_7_method_35_code 65 = .ok (.getfield 38, 3) := by decide +kernel
theorem d_Mo_isLeft_68 : decode prog_7_method_35_code 68 = .ok (.iload 8, 2) := by decide +kernel
theorem d_Mo_isLeft_70 : decode prog_7_method_35_code 70 = .ok (.iaload, 1) := by decide +kernel
theorem d_Mo_isLeft_71 : decode prog_7_method_35_code 71 = .ok (.iload_n 1, 1) := by decide +kernel
theorem d_Mo_isLeft_72 : decode prog_7_method_35_code 72 = .ok (.if_icmp .ne 34, 3) := by decide +kernel
theorem d_Mo_isLeft_75 : decode prog_7_method_35_code 75 = .ok (.aload_n 0, 1) := by decide +kernel
theorem d_Mo_isLeft_76 : decode prog_7_method_35_code 76 = .ok (.getfield 44, 3) := by decide +kernel
theorem d_Mo_isLeft_79 : decode prog_7_method_35_code 79 = .ok (.iload 8, 2) := by decide +kernel
theorem d_Mo_isLeft_81 : decode prog_7_method_35_code 81 = .ok (.iaload, 1) := by decide +kernel
theorem d_Mo_isLeft_82 : decode prog_7_method_35_code 82 = .ok (.iload 4, 2) := by decide +kernel
theorem d_Mo_isLeft_84 : decode prog_7_method_35_code 84 = .ok (.if_icmp .ne 22, 3) := by decide +kernel
theorem d_Mo_isLeft_87 : decode prog_7_method_35_code 87 = .ok (.aload_n 0, 1) := by decide +kernel
theorem d_Mo_isLeft_88 : decode prog_7_method_35_code 88 = .ok (.iload_n 2, 1) := by decide +kernel
theorem d_Mo_isLeft_89 : decode prog_7_method_35_code 89 = .ok (.iload 6, 2) := by decide +kernel
theorem d_Mo_isLeft_91 : decode prog_7_method_35_code 91 = .ok (.aload_n 0, 1) := by decide +kernel
theorem d_Mo_isLeft_92 : decode prog_7_method_35_code 92 = .ok (.getfield 41, 3) := by decide +kernel
theorem d_Mo_isLeft_95 : decode prog_7_method_35_code 95 = .ok (.iload 8, 2) := by decide +kernel
theorem d_Mo_isLeft_97 : decode prog_7_method_35_code 97 = .ok (.iaload, 1) := by decide +kernel
theorem d_Mo_isLeft_98 : decode prog_7_method_35_code 98 = .ok (.invokevirtual 144, 3) := by decide +kernel
theorem d_Mo_isLeft_101 : decode prog_7_method_35_code 101 = .ok (.istore 7, 2) := by decide +kernel
theorem d_Mo_isLeft_103 : decode prog_7_method_35_code 103 = .ok (.goto 42, 3) := by decide +kernel
theorem d_Mo_isLeft_106 : decode prog_7_method_35_code 106 = .ok (.aload_n 0, 1) := by decide +kernel
theorem d_Mo_isLeft_107 : decode prog_7_method_35_code 107 = .ok (.getfield 38, 3) := by decide +kernel
theorem d_Mo_isLeft_110 : decode prog_7_method_35_code 110 = .ok (.iload 8, 2) := by decide +kernel
theorem d_Mo_isLeft_112 : decode prog_7_method_35_code 112 = .ok (.iaload, 1) := by decide +kernel
theorem d_Mo_isLeft_113 : decode prog_7_method_35_code 113 = .ok (.iload 4, 2) := by decide +kernel
theorem d_Mo_isLeft_115 : decode prog_7_method_35_code 115 = .ok (.if_icmp .ne 30, 3) := by decide +kernel
theorem d_Mo_isLeft_118 : decode prog_7_method_35_code 118 = .ok (.aload_n 0, 1) := by decide +kernel
theorem d_Mo_isLeft_119 : decode prog_7_method_35_code 119 = .ok (.getfield 44, 3) := by decide +kernel
theorem d_Mo_isLeft_122 : decode prog_7_method_35_code 122 = .ok (.iload 8, 2) := by decide +kernel
theorem d_Mo_isLeft_124 : decode prog_7_method_35_code 124 = .ok (.iaload, 1) := by decide +kernel
theorem d_Mo_isLeft_125 : decode prog_7_method_35_code 125 = .ok (.iload_n 1, 1) := by decide +kernel
theorem d_Mo_isLeft_126 : decode prog_7_method_35_code 126 = .ok (.if_icmp .ne 19, 3) := by decide +kernel
theorem d_Mo_isLeft_129 : decode prog_7_method_35_code 129 = .ok (.aload_n 0, 1) := by decide +kernel
theorem d_Mo_isLeft_130 : decode prog_7_method_35_code 130 = .ok (.iload 6, 2) := by decide +kernel
theorem d_Mo_isLeft_132 : decode prog_7_method_35_code 132 = .ok (.iload_n 2, 1) := by decide +kernel
theorem d_Mo_isLeft_133 : decode prog_7_method_35_code 133 = .ok (.aload_n 0, 1) := by decide +kernel
theorem d_Mo_isLeft_134 : decode prog_7_method_35_code 134 = .ok (.getfield 41, 3) := by decide +kernel
theorem d_Mo_isLeft_137 : decode prog_7_method_35_code 137 = .ok (.iload 8, 2) := by decide +kernel
theorem d_Mo_isLeft_139 : decode prog_7_method_35_code 139 = .ok (.iaload, 1) := by decide +kernel
theorem d_Mo_isLeft_140 : decode prog_7_method_35_code 140 = .ok (.invokevirtual 144, 3) := by decide +kernel
theorem d_Mo_isLeft_143 : decode prog_7_method_35_code 143 = .ok (.istore 7, 2) := by decide +kernel
theorem d_Mo_isLeft_145 : decode prog_7_method_35_code 145 = .ok (.iinc 8 1, 3) := by decide +kernel
theorem d_Mo_isLeft_148 : decode prog_7_method_35_code 148 = .ok (.goto (-98), 3) := by decide +kernel
theorem d_Mo_isLeft_151 : decode prog_7_method_35_code 151 = .ok (.aload_n 0, 1) := by decide +kernel
theorem d_Mo_isLeft_152 : decode prog_7_method_35_code 152 = .ok (.getfield 60, 3) := by decide +kernel
theorem d_Mo_isLeft_155 : decode prog_7_method_35_code 155 = .ok (.iload_n 1, 1) := by decide +kernel
theorem d_Mo_isLeft_156 : decode prog_7_method_35_code 156 = .ok (.iconst 1, 1) := by decide +kernel
theorem d_Mo_isLeft_157 : decode prog_7_method_35_code 157 = .ok (.iadd, 1) := by decide +kernel
theorem d_Mo_isLeft_158 : decode prog_7_method_35_code 158 = .ok (.iload 4, 2) := by decide +kernel
theorem d_Mo_isLeft_160 : decode prog_7_method_35_code 160 = .ok (.iload 6, 2) := by decide +kernel
theorem d_Mo_isLeft_162 : decode prog_7_method_35_code 162 = .ok (.invokestatic 135, 3) := by decide +kernel
theorem d_Mo_isLeft_165 : decode prog_7_method_35_code 165 = .ok (.iload 7, 2) := by decide +kernel
theorem d_Mo_isLeft_167 : decode prog_7_method_35_code 167 = .ok (.bastore, 1) := by decide +kernel
theorem d_Mo_isLeft_168 : decode prog_7_method_35_code 168 = .ok (.iload 5, 2) := by decide +kernel
theorem d_Mo_isLeft_170 : decode prog_7_method_35_code 170 = .ok (.ifCond .ne 8, 3) := by decide +kernel
theorem d_Mo_isLeft_173 : decode prog_7_method_35_code 173 = .ok (.iload 7, 2) := by decide +kernel
theorem d_Mo_isLeft_175 : decode prog_7_method_35_code 175 = .ok (.ifCond .eq 7, 3) := by decide +kernel
theorem d_Mo_isLeft_178 : decode prog_7_method_35_code 178 = .ok (.iconst 1, 1) := by decide +kernel
theorem d_Mo_isLeft_179 : decode prog_7_method_35_code 179 = .ok (.goto 4, 3) := by decide +kernel
theorem d_Mo_isLeft_182 : decode prog_7_method_35_code 182 = .ok (.iconst 0, 1) := by decide +kernel
theorem d_Mo_isLeft_183 : decode prog_7_method_35_code 183 = .ok (.istore 5, 2) := by decide +kernel
theorem d_Mo_isLeft_185 : decode prog_7_method_35_code 185 = .ok (.iinc 6 1, 3) := by decide +kernel
theorem d_Mo_isLeft_188 : decode prog_7_method_35_code 188 = .ok (.goto (-165), 3) := by decide +kernel
theorem d_Mo_isLeft_191 : decode prog_7_method_35_code 191 = .ok (.iload 5, 2) := by decide +kernel
theorem d_Mo_isLeft_193 : decode prog_7_method_35_code 193 = .ok (.istore_n 3, 1) := by decide +kernel
theorem d_Mo_isLeft_194 : decode prog_7_method_35_code 194 = .ok (.iinc 4 1, 3) := by decide +kernel
theorem d_Mo_isLeft_197 : decode prog_7_method_35_code 197 = .ok (.goto (-190), 3) := by decide +kernel
theorem d_Mo_isLeft_200 : decode prog_7_method_35_code 200 = .ok (.iload_n 3, 1) := by decide +kernel
theorem d_Mo_isLeft_201 : decode prog_7_method_35_code 201 = .ok (.ireturn, 1) := by decide +kernel
theorem d_Mo_search_0 : decode prog_7_method_33_code 0 = .ok (.aload_n 0, 1) := by decide +kernel
theorem d_Mo_search_1 : decode prog_7_method_33_code 1 = .ok (.invokevirtual 123, 3) := by decide +kernel
theorem d_Mo_search_4 : decode prog_7_method_33_code 4 = .ok (.iconst 0, 1) := by decide +kernel
theorem d_Mo_search_5 : decode prog_7_method_33_code 5 = .ok (.istore_n 3, 1) := by decide +kernel
theorem d_Mo_search_6 : decode prog_7_method_33_code 6 = .ok (.iload_n 3, 1) := by decide +kernel
theorem d_Mo_search_7 : decode prog_7_method_33_code 7 = .ok (.iconst 5, 1) := by decide +kernel
theorem d_Mo_search_8 : decode prog_7_method_33_code 8 = .ok (.if_icmp .ge 79, 3) := by decide +kernel
theorem d_Mo_search_11 : decode prog_7_method_33_code 11 = .ok (.iconst 0, 1) := by decide +kernel
theorem d_Mo_search_12 : decode prog_7_method_33_code 12 = .ok (.istore 4, 2) := by decide +kernel
theorem d_Mo_search_14 : decode prog_7_method_33_code 14 = .ok (.iload 4, 2) := by decide +kernel
theorem d_Mo_search_16 : decode prog_7_method_33_code 16 = .ok (.aload_n 0, 1) := by decide +kernel
theorem d_Mo_search_17 : decode prog_7_method_33_code 17 = .ok (.invokevirtual 102, 3) := by decide +kernel
theorem d_Mo_search_20 : decode prog_7_method_33_code 20 = .ok (.if_icmp .ge 61, 3) := by decide +kernel
theorem d_Mo_search_23 : decode prog_7_method_33_code 23 = .ok (.aload_n 0, 1) := by decide +kernel
theorem d_Mo_search_24 : decode prog_7_method_33_code 24 = .ok (.getfield 60, 3) := by decide +kernel
theorem d_Mo_search_27 : decode prog_7_method_33_code 27 = .ok (.iconst 0, 1) := by decide +kernel
theorem d_Mo_search_28 : decode prog_7_method_33_code 28 = .ok (.iload_n 3, 1) := by decide +kernel
theorem d_Mo_search_29 : decode prog_7_method_33_code 29 = .ok (.iload 4, 2) := by decide +kernel
theorem d_Mo_search_31 : decode prog_7_method_33_code 31 = .ok (.invokestatic 135, 3) := by decide +kernel
theorem d_Mo_search_34 : decode prog_7_method_33_code 34 = .ok (.aload_n 0, 1) := by decide +kernel
theorem d_Mo_search_35 : decode prog_7_method_33_code 35 = .ok (.getfield 54, 3) := by decide +kernel
theorem d_Mo_search_38 : decode prog_7_method_33_code 38 = .ok (.iload 4, 2) := by decide +kernel
theorem d_Mo_search_40 : decode prog_7_method_33_code 40 = .ok (.iaload, 1) := by decide +kernel
theorem d_Mo_search_41 : decode prog_7_method_33_code 41 = .ok (.ifCond .ne 32, 3) := by decide +kernel
theorem d_Mo_search_44 : decode prog_7_method_33_code 44 = .ok (.aload_n 0, 1) := by decide +kernel
theorem d_Mo_search_45 : decode prog_7_method_33_code 45 = .ok (.iload_n 3, 1) := by decide +kernel
theorem d_Mo_search_46 : decode prog_7_method_33_code 46 = .ok (.iload 4, 2) := by decide +kernel
theorem d_Mo_search_48 : decode prog_7_method_33_code 48 = .ok (.invokevirtual 138, 3) := by decide +kernel
theorem d_Mo_search_51 : decode prog_7_method_33_code 51 = .ok (.ifCond .eq 22, 3) := by decide +kernel
theorem d_Mo_search_54 : decode prog_7_method_33_code 54 = .ok (.iload_n 3, 1) := by decide +kernel
theorem d_Mo_search_55 : decode prog_7_method_33_code 55 = .ok (.iload_n 1, 1) := by decide +kernel
theorem d_Mo_search_56 : decode prog_7_method_33_code 56 = .ok (.if_icmp .ne 13, 3) := by decide +kernel
theorem d_Mo_search_59 : decode prog_7_method_33_code 59 = .ok (.aload_n 0, 1) := by decide +kernel
theorem d_Mo_search_60 : decode prog_7_method_33_code 60 = .ok (.iload 4, 2) := by decide +kernel
theorem d_Mo_search_62 : decode prog_7_method_33_code 62 = .ok (.iload_n 2, 1) := by decide +kernel
theorem d_Mo_search_63 : decode prog_7_method_33_code 63 = .ok (.invokevirtual 98, 3) := by decide +kernel
theorem d_Mo_search_66 : decode prog_7_method_33_code 66 = .ok (.ifCond .ne 7, 3) := by decide +kernel
theorem d_Mo_search_69 : decode prog_7_method_33_code 69 = .ok (.iconst 1, 1) := by decide +kernel
theorem d_Mo_search_70 : decode prog_7_method_33_code 70 = .ok (.goto 4, 3) := by decide +kernel
theorem d_Mo_search_73 : decode prog_7_method_33_code 73 = .ok (.iconst 0, 1) := by decide +kernel
theorem d_Mo_search_74 : decode prog_7_method_33_code 74 = .ok (.bastore, 1) := by decide +kernel
theorem d_Mo_search_75 : decode prog_7_method_33_code 75 = .ok (.iinc 4 1, 3) := by decide +kernel
theorem d_Mo_search_78 : decode prog_7_method_33_code 78 = .ok (.goto (-64), 3) := by decide +kernel
theorem d_Mo_search_81 : decode prog_7_method_33_code 81 = .ok (.iinc 3 1, 3) := by decide +kernel
theorem d_Mo_search_84 : decode prog_7_method_33_code 84 = .ok (.goto (-78), 3) := by decide +kernel
theorem d_Mo_search_87 : decode prog_7_method_33_code 87 = .ok (.iconst 0, 1) := by decide +kernel
theorem d_Mo_search_88 : decode prog_7_method_33_code 88 = .ok (.istore_n 3, 1) := by decide +kernel
theorem d_Mo_search_89 : decode prog_7_method_33_code 89 = .ok (.aload_n 0, 1) := by decide +kernel
theorem d_Mo_search_90 : decode prog_7_method_33_code 90 = .ok (.getfield 63, 3) := by decide +kernel
theorem d_Mo_search_93 : decode prog_7_method_33_code 93 = .ok (.iconst 0, 1) := by decide +kernel
theorem d_Mo_search_94 : decode prog_7_method_33_code 94 = .ok (.iconst (-1), 1) := by decide +kernel
theorem d_Mo_search_95 : decode prog_7_method_33_code 95 = .ok (.iastore, 1) := by decide +kernel
theorem d_Mo_search_96 : decode prog_7_method_33_code 96 = .ok (.iload_n 3, 1) := by decide +kernel
theorem d_Mo_search_97 : decode prog_7_method_33_code 97 = .ok (.ifCond .lt 99, 3) := by decide +kernel
theorem d_Mo_search_100 : decode prog_7_method_33_code 100 = .ok (.iload_n 3, 1) := by decide +kernel
theorem d_Mo_search_101 : decode prog_7_method_33_code 101 = .ok (.iconst 5, 1) := by decide +kernel
theorem d_Mo_search_102 : decode prog_7_method_33_code 102 = .ok (.if_icmp .ge 94, 3) := by decide +kernel
theorem d_Mo_search_105 : decode prog_7_method_33_code 105 = .ok (.aload_n 0, 1) := by decide +kernel
theorem d_Mo_search_106 : decode prog_7_method_33_code 106 = .ok (.getfield 63, 3) := by decide +kernel
theorem d_Mo_search_109 : decode prog_7_method_33_code 109 = .ok (.iload_n 3, 1) := by decide +kernel
theorem d_Mo_search_110 : decode prog_7_method_33_code 110 = .ok (.iaload, 1) := by decide +kernel
theorem d_Mo_search_111 : decode prog_7_method_33_code 111 = .ok (.iconst 1, 1) := by decide +kernel
theorem d_Mo_search_112 : decode prog_7_method_33_code 112 = .ok (.iadd, 1) := by decide +kernel
theorem d_Mo_search_113 : decode prog_7_method_33_code 113 = .ok (.istore 4, 2) := by decide +kernel
theorem d_Mo_search_115 : decode prog_7_method_33_code 115 = .ok (.iload 4, 2) := by decide +kernel
theorem d_Mo_search_117 : decode prog_7_method_33_code 117 = .ok (.aload_n 0, 1) := by decide +kernel
theorem d_Mo_search_118 : decode prog_7_method_33_code 118 = .ok (.invokevirtual 102, 3) := by decide +kernel
theorem d_Mo_search_121 : decode prog_7_method_33_code 121 = .ok (.if_icmp .ge 34, 3) := by decide +kernel
theorem d_Mo_search_124 : decode prog_7_method_33_code 124 = .ok (.aload_n 0, 1) := by decide +kernel
theorem d_Mo_search_125 : decode prog_7_method_33_code 125 = .ok (.getfield 60, 3) := by decide +kernel
theorem d_Mo_search_128 : decode prog_7_method_33_code 128 = .ok (.iload_n 3, 1) := by decide +kernel
theorem d_Mo_search_129 : decode prog_7_method_33_code 129 = .ok (.iload_n 3, 1) := by decide +kernel
theorem d_Mo_search_130 : decode prog_7_method_33_code 130 = .ok (.iload 4, 2) := by decide +kernel
theorem d_Mo_search_132 : decode prog_7_method_33_code 132 = .ok (.invokestatic 135, 3) := by decide +kernel
theorem d_Mo_search_135 : decode prog_7_method_33_code 135 = .ok (.baload, 1) := by decide +kernel
theorem d_Mo_search_136 : decode prog_7_method_33_code 136 = .ok (.ifCond .eq 13, 3) := by decide +kernel
theorem d_Mo_search_139 : decode prog_7_method_33_code 139 = .ok (.aload_n 0, 1) := by decide +kernel
theorem d_Mo_search_140 : decode prog_7_method_33_code 140 = .ok (.iload_n 3, 1) := by decide +kernel
theorem d_Mo_search_141 : decode prog_7_method_33_code 141 = .ok (.iload 4, 2) := by decide +kernel
theorem d_Mo_search_143 : decode prog_7_method_33_code 143 = .ok (.invokevirtual 141, 3) := by decide +kernel
theorem d_Mo_search_146 : decode prog_7_method_33_code 146 = .ok (.ifCond .ne 9, 3) := by decide +kernel
theorem d_Mo_search_149 : decode prog_7_method_33_code 149 = .ok (.iinc 4 1, 3) := by decide +kernel
theorem d_Mo_search_152 : decode prog_7_method_33_code 152 = .ok (.goto (-37), 3) := by decide +kernel
theorem d_Mo_search_155 : decode prog_7_method_33_code 155 = .ok (.aload_n 0, 1) := by decide +kernel
theorem d_Mo_search_156 : decode prog_7_method_33_code 156 = .ok (.getfield 63, 3) := by decide +kernel
theorem d_Mo_search_159 : decode prog_7_method_33_code 159 = .ok (.iload_n 3, 1) := by decide +kernel
theorem d_Mo_search_160 : decode prog_7_method_33_code 160 = .ok (.iload 4, 2) := by decide +kernel
theorem d_Mo_search_162 : decode prog_7_method_33_code 162 = .ok (.iastore, 1) := by decide +kernel
theorem d_Mo_search_163 : decode prog_7_method_33_code 163 = .ok (.iload 4, 2) := by decide +kernel
theorem d_Mo_search_165 : decode prog_7_method_33_code 165 = .ok (.aload_n 0, 1) := by decide +kernel
theorem d_Mo_search_166 : decode prog_7_method_33_code 166 = .ok (.invokevirtual 102, 3) := by decide +kernel
theorem d_Mo_search_169 : decode prog_7_method_33_code 169 = .ok (.if_icmp .ne 9, 3) := by decide +kernel
theorem d_Mo_search_172 : decode prog_7_method_33_code 172 = .ok (.iinc 3 (-1), 3) := by decide +kernel
theorem d_Mo_search_175 : decode prog_7_method_33_code 175 = .ok (.goto 18, 3) := by decide +kernel
theorem d_Mo_search_178 : decode prog_7_method_33_code 178 = .ok (.iinc 3 1, 3) := by decide +kernel
theorem d_Mo_search_181 : decode prog_7_method_33_code 181 = .ok (.iload_n 3, 1) := by decide +kernel
theorem d_Mo_search_182 : decode prog_7_method_33_code 182 = .ok (.iconst 5, 1) := by decide +kernel
theorem d_Mo_search_183 : decode prog_7_method_33_code 183 = .ok (.if_icmp .ge 10, 3) := by decide +kernel
theorem d_Mo_search_186 : decode prog_7_method_33_code 186 = .ok (.aload_n 0, 1) := by decide +kernel
theorem d_Mo_search_187 : decode prog_7_method_33_code 187 = .ok (.getfield 63, 3) := by decide +kernel
theorem d_Mo_search_190 : decode prog_7_method_33_code 190 = .ok (.iload_n 3, 1) := by decide +kernel
theorem d_Mo_search_191 : decode prog_7_method_33_code 191 = .ok (.iconst (-1), 1) := by decide +kernel
theorem d_Mo_search_192 : decode prog_7_method_33_code 192 = .ok (.iastore, 1) := by decide +kernel
theorem d_Mo_search_193 : decode prog_7_method_33_code 193 = .ok (.goto (-97), 3) := by decide +kernel
theorem d_Mo_search_196 : decode prog_7_method_33_code 196 = .ok (.iload_n 3, 1) := by decide +kernel
theorem d_Mo_search_197 : decode prog_7_method_33_code 197 = .ok (.iconst 5, 1) := by decide +kernel
theorem d_Mo_search_198 : decode prog_7_method_33_code 198 = .ok (.if_icmp .ne 7, 3) := by decide +kernel
theorem d_Mo_search_201 : decode prog_7_method_33_code 201 = .ok (.iconst 1, 1) := by decide +kernel
theorem d_Mo_search_202 : decode prog_7_method_33_code 202 = .ok (.goto 4, 3) := by decide +kernel
theorem d_Mo_search_205 : decode prog_7_method_33_code 205 = .ok (.iconst 0, 1) := by decide +kernel
theorem d_Mo_search_206 : decode prog_7_method_33_code 206 = .ok (.ireturn, 1) := by decide +kernel
theorem d_Mo_run_0 : decode prog_7_method_36_code 0 = .ok (.aload_n 0, 1) := by decide +kernel
theorem d_Mo_run_1 : decode prog_7_method_36_code 1 = .ok (.iconst (-1), 1) := by decide +kernel
theorem d_Mo_run_2 : decode prog_7_method_36_code 2 = .ok (.iconst 0, 1) := by decide +kernel
theorem d_Mo_run_3 : decode prog_7_method_36_code 3 = .ok (.invokevirtual 147, 3) := by decide +kernel
theorem d_Mo_run_6 : decode prog_7_method_36_code 6 = .ok (.ifCond .eq 7, 3) := by decide +kernel
theorem d_Mo_run_9 : decode prog_7_method_36_code 9 = .ok (.iconst 1, 1) := by decide +kernel
theorem d_Mo_run_10 : decode prog_7_method_36_code 10 = .ok (.goto 4, 3) := by decide +kernel
theorem d_Mo_run_13 : decode prog_7_method_36_code 13 = .ok (.iconst 0, 1) := by decide +kernel
theorem d_Mo_run_14 : decode prog_7_method_36_code 14 = .ok (.ireturn, 1) := by decide +kernel
theorem d_Mo_model_0 : decode prog_7_method_37_code 0 = .ok (.iload_n 1, 1) := by decide +kernel
theorem d_Mo_model_1 : decode prog_7_method_37_code 1 = .ok (.invokestatic 126, 3) := by decide +kernel
theorem d_Mo_model_4 : decode prog_7_method_37_code 4 = .ok (.ifCond .ne 5, 3) := by decide +kernel
theorem d_Mo_model_7 : decode prog_7_method_37_code 7 = .ok (.iconst (-1), 1) := by decide +kernel
theorem d_Mo_model_8 : decode prog_7_method_37_code 8 = .ok (.ireturn, 1) := by decide +kernel
theorem d_Mo_model_9 : decode prog_7_method_37_code 9 = .ok (.aload_n 0, 1) := by decide +kernel
theorem d_Mo_model_10 : decode prog_7_method_37_code 10 = .ok (.iconst (-1), 1) := by decide +kernel
theorem d_Mo_model_11 : decode prog_7_method_37_code 11 = .ok (.iconst 0, 1) := by decide +kernel
theorem d_Mo_model_12 : decode prog_7_method_37_code 12 = .ok (.invokevirtual 147, 3) := by decide +kernel
theorem d_Mo_model_15 : decode prog_7_method_37_code 15 = .ok (.ifCond .eq 12, 3) := by decide +kernel
theorem d_Mo_model_18 : decode prog_7_method_37_code 18 = .ok (.aload_n 0, 1) := by decide +kernel
theorem d_Mo_model_19 : decode prog_7_method_37_code 19 = .ok (.getfield 63, 3) := by decide +kernel
theorem d_Mo_model_22 : decode prog_7_method_37_code 22 = .ok (.iload_n 1, 1) := by decide +kernel
theorem d_Mo_model_23 : decode prog_7_method_37_code 23 = .ok (.iaload, 1) := by decide +kernel
theorem d_Mo_model_24 : decode prog_7_method_37_code 24 = .ok (.goto 5, 3) := by decide +kernel
theorem d_Mo_model_27 : decode prog_7_method_37_code 27 = .ok (.bipush (-2), 2) := by decide +kernel
theorem d_Mo_model_29 : decode prog_7_method_37_code 29 = .ok (.ireturn, 1) := by decide +kernel
theorem d_Mo_surely_0 : decode prog_7_method_38_code 0 = .ok (.iload_n 1, 1) := by decide +kernel
theorem d_Mo_surely_1 : decode prog_7_method_38_code 1 = .ok (.invokestatic 126, 3) := by decide +kernel
theorem d_Mo_surely_4 : decode prog_7_method_38_code 4 = .ok (.ifCond .eq 28, 3) := by decide +kernel
theorem d_Mo_surely_7 : decode prog_7_method_38_code 7 = .ok (.aload_n 0, 1) := by decide +kernel
theorem d_Mo_surely_8 : decode prog_7_method_38_code 8 = .ok (.iload_n 2, 1) := by decide +kernel
theorem d_Mo_surely_9 : decode prog_7_method_38_code 9 = .ok (.invokevirtual 84, 3) := by decide +kernel
theorem d_Mo_surely_12 : decode prog_7_method_38_code 12 = .ok (.ifCond .eq 20, 3) := by decide +kernel
theorem d_Mo_surely_15 : decode prog_7_method_38_code 15 = .ok (.aload_n 0, 1) := by decide +kernel
theorem d_Mo_surely_16 : decode prog_7_method_38_code 16 = .ok (.iload_n 1, 1) := by decide +kernel
theorem d_Mo_surely_17 : decode prog_7_method_38_code 17 = .ok (.iload_n 2, 1) := by decide +kernel
theorem d_Mo_surely_18 : decode prog_7_method_38_code 18 = .ok (.invokevirtual 147, 3) := by decide +kernel
theorem d_Mo_surely_21 : decode prog_7_method_38_code 21 = .ok (.ifCond .eq 7, 3) := by decide +kernel
theorem d_Mo_surely_24 : decode prog_7_method_38_code 24 = .ok (.iconst 0, 1) := by decide +kernel
theorem d_Mo_surely_25 : decode prog_7_method_38_code 25 = .ok (.goto 8, 3) := by decide +kernel
theorem d_Mo_surely_28 : decode prog_7_method_38_code 28 = .ok (.iconst 1, 1) := by decide +kernel
theorem d_Mo_surely_29 : decode prog_7_method_38_code 29 = .ok (.goto 4, 3) := by decide +kernel
theorem d_Mo_surely_32 : decode prog_7_method_38_code 32 = .ok (.iconst (-1), 1) := by decide +kernel
theorem d_Mo_surely_33 : decode prog_7_method_38_code 33 = .ok (.ireturn, 1) := by decide +kernel
noncomputable def bk_Mo_at_0 : List Int32 → List Int64 → tq_S → Option tq_C
  | [x0, x1, x2], [], σ => some (tq_rt, [((1024 * ((5 * x0) + x1)) + x2)], [], σ)
  | _, _, _ => none
noncomputable def st_Mo_at (c : tq_C) : Option tq_C := if c.1 = 0 then bk_Mo_at_0 c.2.1 c.2.2.1 c.2.2.2 else none
set_option maxHeartbeats 40000000 in
set_option maxRecDepth 100000 in
theorem c_Mo_at (l : Launch) (dC : Nat → ClassId) (dI : Nat → Nat → Nat) (cI cL cZ : ClassId) (ad : Nat → Nat) (tt : Nat) (sz : Nat) (σ : tq_S) (a0 : Int32) (a1 : Int32) (a2 : Int32) (r : Int32) (σ' : tq_S) (hf : tq_fI st_Mo_at (0, [a0, a1, a2], [], σ) = some (r, σ')) : Met l y_Mo_at w_Mo_at ({ frames := 0, cells := 0, slots := 0, locals := 0 } : Room) (va_Pc [.int a0, .int a1, .int a2] (tq_B dC dI cI cL cZ tt (wo cI cL cZ ad σ) sz)) (va_Qi (fun (r' : Int32) (u : tq_S) => r' = r ∧ u = σ') (tq_E dC dI cI cL cZ (wo cI cL cZ ad) (va_A (wo cI cL cZ ad σ) sz)) (va_A (wo cI cL cZ ad σ) sz)) 0 0 (va_A (wo cI cL cZ ad σ) sz) := by
  obtain ⟨n0, h0⟩ := tq_fI_to hf
  refine Met.ofW (cc := prog_7_method_32_code) (maxL := 3) (ret := (some .int)) (by decide) rfl ?_
  intro p e s m args below meth c s₁ B hml hv
  obtain ⟨rfl, hsz, hP, hK, hD0, hZ, hN⟩ := hv
  have hx := B.exec
  have hb := B.bytes
  have hr := B.returns
  have hts : ∀ w ∈ tq_T, w.before _ s = true := fun w h => atoms_spec (ws := w_Mo_at) B.pre w (List.mem_cons_of_mem _ h)
  have hown : s.vm.findClass "TableauNodesModel" = some m.cls := findClass_of_methodNamed B.named
  have hlocks := B.notSynchronized
  subst hsz
  have hD := hD0.self (sz := s.heap.size)
  have hS : va_S (va_A (wo cI cL cZ ad σ) s.heap.size) s.heap s.heap [] := va_S.rf
  have hA : ∀ q : Nat, s.heap.size ≤ q → va_A (wo cI cL cZ ad σ) s.heap.size q := fun q h => Or.inr h
  generalize va_A (wo cI cL cZ ad σ) s.heap.size = A at hD hS hA hZ ⊢
  have hl := lv_entry ([.int a0, .int a1, .int a2]) (n := 3) (Nat.le_of_ble_eq_true rfl)
  rw [lg_entry_eq]
  generalize (lg_sl ([.int a0, .int a1, .int a2]) ++ List.replicate (3 - (lg_sl ([.int a0, .int a1, .int a2])).length) Slot.unset).toArray = ls at hl ⊢
  have hl : lv_has ls 3 [(0, .int a0), (1, .int a1), (2, .int a2)] := hl
  have key : ∀ n : Nat, (∀ {x0 x1 x2 : Int32} {σ : tq_S} {H : Heap} {locs : List Loc} {ls : Array Slot}, va_P (dC, dI) tq_cl (wo cI cL cZ ad σ) H → va_D A (wo cI cL cZ ad σ) → va_S A s.heap H locs → lv_has ls 3 [(0, .int x0), (1, .int x1), (2, .int x2)] → tq_go st_Mo_at n (0, [x0, x1, x2], [], σ) = some (tq_rt, [r], [], σ') → W p l e (headSpec w_Mo_at ({ frames := 0, cells := 0, slots := 0, locals := 0 } : Room)).room s m ([.int a0, .int a1, .int a2] : List Value).toArray below meth c H locs 0 0 (MQ below (va_Qi (fun (r' : Int32) (u : tq_S) => r' = r ∧ u = σ') (tq_E dC dI cI cL cZ (wo cI cL cZ ad) A) A) ([.int a0, .int a1, .int a2] : List Value).toArray s 0 0 A) (F0 m 0 ls [])) := by
    intro n
    induction n with
    | zero => exact fun _ _ _ _ h => by cases h
    | succ n ih =>
      intro x0 x1 x2 σ H locs ls hP hD hS hl h9
      obtain ⟨q9, hg, hn⟩ := tq_go_s h9 (show ¬ (0 : Nat) = tq_rt by decide)
      replace hg : bk_Mo_at_0 [x0, x1, x2] [] σ = some q9 := hg
      unfold bk_Mo_at_0 at hg
      refine lv_sipush (v := 1024) hx hb d_Mo_at_0 (by decide) ?_
      refine lv_iconst (v := 5) hx hb d_Mo_at_3 (by decide) ?_
      refine lv_iload_n hx hb d_Mo_at_4 rfl (lv_at hl 0 rfl) ?_
      refine lv_imul hx hb d_Mo_at_5 ?_
      refine lv_iload_n hx hb d_Mo_at_6 rfl (lv_at hl 1 rfl) ?_
      refine lv_iadd hx hb d_Mo_at_7 ?_
      refine lv_imul hx hb d_Mo_at_8 ?_
      refine lv_iload_n hx hb d_Mo_at_9 rfl (lv_at hl 2 rfl) ?_
      refine lv_iadd hx hb d_Mo_at_10 ?_
      exact W.iret (v := ((1024 * ((5 * x0) + x1)) + x2)) hx hb hr (fun t ht hW => ⟨⟨((1024 * ((5 * x0) + x1)) + x2), σ, rfl, tq_grI hg hn, by rw [ht]; exact hP, va_K.moved hW.alike hK, hD⟩, hS.F ht⟩) hS.2.2 d_Mo_at_11
  exact (key n0) hP hD hS hl h0
noncomputable def bk_Mo_isSaid_0 : List Int32 → List Int64 → tq_S → Option tq_C
  | [x1, x2], [], σ => some (5, [x1, x2, 1, 0], [], σ)
  | _, _, _ => none
noncomputable def bk_Mo_isSaid_5 : List Int32 → List Int64 → tq_S → Option tq_C
  | [x1, x2, x3, x4], [], σ => if (σ.2.2 16) ≤ x4 then some (59, [x1, x2, x3, 0], [], σ) else if x3 = 0 then some (59, [x1, x2, x3, 0], [], σ) else tq_gd x4 40 (if ¬ (ia σ 24 x4) = x1 then tq_lj (x4 + 1) (fun v5 => some (5, [x1, x2, 1, v5], [], σ)) else tq_gd x4 40 (tq_ob (tq_fI st_Mo_isHeld (0, [x2, (ia σ 25 x4)], [], σ)) (fun r8 σ9 => if r8 = 0 then tq_lj (x4 + 1) (fun v11 => some (5, [x1, x2, 0, v11], [], σ9)) else tq_lj (x4 + 1) (fun v12 => some (5, [x1, x2, 1, v12], [], σ9)))))
  | _, _, _ => none
noncomputable def bk_Mo_isSaid_59 : List Int32 → List Int64 → tq_S → Option tq_C
  | [x1, x2, x3, x4], [], σ => if (σ.2.2 17) ≤ x4 then tq_gb x3 (some (tq_rt, [x3], [], σ)) else if x3 = 0 then tq_gb x3 (some (tq_rt, [x3], [], σ)) else tq_gd x4 40 (if ¬ (ia σ 26 x4) = x1 then tq_lj (x4 + 1) (fun v19 => some (59, [x1, x2, 1, v19], [], σ)) else tq_gd x4 40 (if ¬ (ia σ 28 x4) = x1 then tq_lj (x4 + 1) (fun v22 => some (59, [x1, x2, 1, v22], [], σ)) else tq_gd x4 40 (tq_ob (tq_fI st_Mo_sees (0, [x2, x2, (ia σ 27 x4)], [], σ)) (fun r25 σ26 => if r25 = 0 then tq_lj (x4 + 1) (fun v28 => some (59, [x1, x2, 0, v28], [], σ26)) else tq_lj (x4 + 1) (fun v29 => some (59, [x1, x2, 1, v29], [], σ26))))))
  | _, _, _ => none
noncomputable def st_Mo_isSaid (c : tq_C) : Option tq_C := if c.1 = 0 then bk_Mo_isSaid_0 c.2.1 c.2.2.1 c.2.2.2 else if c.1 = 5 then bk_Mo_isSaid_5 c.2.1 c.2.2.1 c.2.2.2 else if c.1 = 59 then bk_Mo_isSaid_59 c.2.1 c.2.2.1 c.2.2.2 else none
set_option maxHeartbeats 40000000 in
set_option maxRecDepth 100000 in
theorem c_Mo_isSaid (l : Launch) (dC : Nat → ClassId) (dI : Nat → Nat → Nat) (cI cL cZ : ClassId) (ad : Nat → Nat) (tt : Nat) (sz : Nat) (σ : tq_S) (a1 : Int32) (a2 : Int32) (r : Int32) (σ' : tq_S) (hf : tq_fI st_Mo_isSaid (0, [a1, a2], [], σ) = some (r, σ')) : Met l y_Mo_isSaid w_Mo_isSaid ({ frames := 2, cells := 0, slots := 0, locals := 48 } : Room) (va_Pc [.ref (ad 5), .int a1, .int a2] (tq_B dC dI cI cL cZ tt (wo cI cL cZ ad σ) sz)) (va_Qi (fun (r' : Int32) (u : tq_S) => r' = r ∧ u = σ') (tq_E dC dI cI cL cZ (wo cI cL cZ ad) (va_A (wo cI cL cZ ad σ) sz)) (va_A (wo cI cL cZ ad σ) sz)) 0 0 (va_A (wo cI cL cZ ad σ) sz) := by
  obtain ⟨n0, h0⟩ := tq_fI_to hf
  refine Met.ofW (cc := prog_7_method_34_code) (maxL := 5) (ret := (some .boolean)) (by decide) rfl ?_
  intro p e s m args below meth c s₁ B hml hv
  obtain ⟨rfl, hsz, hP, hK, hD0, hZ, hN⟩ := hv
  have hx := B.exec
  have hb := B.bytes
  have hr := B.returns
  have hts : ∀ w ∈ tq_T, w.before _ s = true := fun w h => atoms_spec (ws := w_Mo_isSaid) B.pre w (List.mem_cons_of_mem _ h)
  have hown : s.vm.findClass "TableauNodesModel" = some m.cls := findClass_of_methodNamed B.named
  have hlocks := B.notSynchronized
  subst hsz
  have hD := hD0.self (sz := s.heap.size)
  have hS : va_S (va_A (wo cI cL cZ ad σ) s.heap.size) s.heap s.heap [] := va_S.rf
  have hA : ∀ q : Nat, s.heap.size ≤ q → va_A (wo cI cL cZ ad σ) s.heap.size q := fun q h => Or.inr h
  generalize va_A (wo cI cL cZ ad σ) s.heap.size = A at hD hS hA hZ ⊢
  have hl := lv_entry ([.ref (ad 5), .int a1, .int a2]) (n := 5) (Nat.le_of_ble_eq_true rfl)
  rw [lg_entry_eq]
  generalize (lg_sl ([.ref (ad 5), .int a1, .int a2]) ++ List.replicate (5 - (lg_sl ([.ref (ad 5), .int a1, .int a2])).length) Slot.unset).toArray = ls at hl ⊢
  have hl : lv_has ls 5 [(0, .ref (ad 5)), (1, .int a1), (2, .int a2)] := hl
  have key : ∀ n : Nat, (∀ {x1 x2 : Int32} {σ : tq_S} {H : Heap} {locs : List Loc} {ls : Array Slot}, va_P (dC, dI) tq_cl (wo cI cL cZ ad σ) H → va_D A (wo cI cL cZ ad σ) → va_S A s.heap H locs → lv_has ls 5 [(0, .ref (ad 5)), (1, .int x1), (2, .int x2)] → tq_go st_Mo_isSaid n (0, [x1, x2], [], σ) = some (tq_rt, [r], [], σ') → W p l e (headSpec w_Mo_isSaid ({ frames := 2, cells := 0, slots := 0, locals := 48 } : Room)).room s m ([.ref (ad 5), .int a1, .int a2] : List Value).toArray below meth c H locs 0 0 (MQ below (va_Qi (fun (r' : Int32) (u : tq_S) => r' = r ∧ u = σ') (tq_E dC dI cI cL cZ (wo cI cL cZ ad) A) A) ([.ref (ad 5), .int a1, .int a2] : List Value).toArray s 0 0 A) (F0 m 0 ls [])) ∧ (∀ {x1 x2 x3 x4 : Int32} {σ : tq_S} {H : Heap} {locs : List Loc} {ls : Array Slot}, va_P (dC, dI) tq_cl (wo cI cL cZ ad σ) H → va_D A (wo cI cL cZ ad σ) → va_S A s.heap H locs → lv_has ls 5 [(0, .ref (ad 5)), (1, .int x1), (2, .int x2), (3, .int x3), (4, .int x4)] → tq_go st_Mo_isSaid n (5, [x1, x2, x3, x4], [], σ) = some (tq_rt, [r], [], σ') → W p l e (headSpec w_Mo_isSaid ({ frames := 2, cells := 0, slots := 0, locals := 48 } : Room)).room s m ([.ref (ad 5), .int a1, .int a2] : List Value).toArray below meth c H locs 0 0 (MQ below (va_Qi (fun (r' : Int32) (u : tq_S) => r' = r ∧ u = σ') (tq_E dC dI cI cL cZ (wo cI cL cZ ad) A) A) ([.ref (ad 5), .int a1, .int a2] : List Value).toArray s 0 0 A) (F0 m 5 ls [])) ∧ (∀ {x1 x2 x3 x4 : Int32} {σ : tq_S} {H : Heap} {locs : List Loc} {ls : Array Slot}, va_P (dC, dI) tq_cl (wo cI cL cZ ad σ) H → va_D A (wo cI cL cZ ad σ) → va_S A s.heap H locs → lv_has ls 5 [(0, .ref (ad 5)), (1, .int x1), (2, .int x2), (3, .int x3), (4, .int x4)] → tq_go st_Mo_isSaid n (59, [x1, x2, x3, x4], [], σ) = some (tq_rt, [r], [], σ') → W p l e (headSpec w_Mo_isSaid ({ frames := 2, cells := 0, slots := 0, locals := 48 } : Room)).room s m ([.ref (ad 5), .int a1, .int a2] : List Value).toArray below meth c H locs 0 0 (MQ below (va_Qi (fun (r' : Int32) (u : tq_S) => r' = r ∧ u = σ') (tq_E dC dI cI cL cZ (wo cI cL cZ ad) A) A) ([.ref (ad 5), .int a1, .int a2] : List Value).toArray s 0 0 A) (F0 m 59 ls [])) := by
    intro n
    induction n with
    | zero => exact ⟨(fun _ _ _ _ h => by cases h), (fun _ _ _ _ h => by cases h), (fun _ _ _ _ h => by cases h)⟩
    | succ n ih =>
      refine ⟨?_, ?_, ?_⟩
      · intro x1 x2 σ H locs ls hP hD hS hl h9
        obtain ⟨q9, hg, hn⟩ := tq_go_s h9 (show ¬ (0 : Nat) = tq_rt by decide)
        replace hg : bk_Mo_isSaid_0 [x1, x2] [] σ = some q9 := hg
        unfold bk_Mo_isSaid_0 at hg
        refine lv_iconst (v := 1) hx hb d_Mo_isSaid_0 (by decide) ?_
        refine lv_istore_n (lv' := [(3, .int 1), (0, .ref (ad 5)), (1, .int x1), (2, .int x2)]) hx hb d_Mo_isSaid_1 rfl hl (by decide) rfl (fun ls hl => ?_)
        refine lv_iconst (v := 0) hx hb d_Mo_isSaid_2 (by decide) ?_
        refine lv_istore (lv' := [(4, .int 0), (3, .int 1), (0, .ref (ad 5)), (1, .int x1), (2, .int x2)]) hx hb d_Mo_isSaid_3 hl (by decide) rfl (fun ls hl => ?_)
        exact ih.2.1 hP hD hS (lv_sub hl [2, 3, 4, 1, 0] rfl) (tq_gi hg hn)
      · intro x1 x2 x3 x4 σ H locs ls hP hD hS hl h9
        obtain ⟨q9, hg, hn⟩ := tq_go_s h9 (show ¬ (5 : Nat) = tq_rt by decide)
        replace hg : bk_Mo_isSaid_5 [x1, x2, x3, x4] [] σ = some q9 := hg
        unfold bk_Mo_isSaid_5 at hg
        refine lv_iload hx hb d_Mo_isSaid_5 (lv_at hl 4 rfl) ?_
        refine lv_aload_n hx hb d_Mo_isSaid_7 rfl (lv_at hl 0 rfl) ?_
        refine va_get (D := (dC, dI)) (ci := 5) (v := .int (σ.2.2 16)) (C := "TableauNodesModel") (T := F_Mo) (N := 25) hx hb hts in_Mo hown hK hP 5 rfl rfl 12 (by decide) (hts _ tw_611) (fun _ h9 => h9) rfl d_Mo_isSaid_8 ?_
        refine lv_icmp_ge (tgt := 56) hx hb d_Mo_isSaid_11 (by decide) (fun c1 => ?_) (fun c1 => ?_)
        · replace hg := tq_if_t c1 hg
          refine lv_iconst (v := 0) hx hb d_Mo_isSaid_56 (by decide) ?_
          refine lv_istore (lv' := [(4, .int 0), (0, .ref (ad 5)), (1, .int x1), (2, .int x2), (3, .int x3)]) hx hb d_Mo_isSaid_57 hl (by decide) rfl (fun ls hl => ?_)
          exact ih.2.2 hP hD hS (lv_sub hl [1, 2, 3, 4, 0] rfl) (tq_gi hg hn)
        · replace hg := tq_if_f c1 hg
          refine lv_iload_n hx hb d_Mo_isSaid_14 rfl (lv_at hl 3 rfl) ?_
          refine lv_if_eq (tgt := 56) hx hb d_Mo_isSaid_15 (by decide) (fun c2 => ?_) (fun c2 => ?_)
          · replace hg := tq_if_t c2 hg
            refine lv_iconst (v := 0) hx hb d_Mo_isSaid_56 (by decide) ?_
            refine lv_istore (lv' := [(4, .int 0), (0, .ref (ad 5)), (1, .int x1), (2, .int x2), (3, .int x3)]) hx hb d_Mo_isSaid_57 hl (by decide) rfl (fun ls hl => ?_)
            exact ih.2.2 hP hD hS (lv_sub hl [1, 2, 3, 4, 0] rfl) (tq_gi hg hn)
          · replace hg := tq_if_f c2 hg
            refine lv_aload_n hx hb d_Mo_isSaid_18 rfl (lv_at hl 0 rfl) ?_
            refine va_get (D := (dC, dI)) (ci := 5) (v := .ref (ad 37)) (C := "TableauNodesModel") (T := F_Mo) (N := 25) hx hb hts in_Mo hown hK hP 5 rfl rfl 10 (by decide) (hts _ tw_609) (fun _ h9 => h9) rfl d_Mo_isSaid_19 ?_
            refine lv_iload hx hb d_Mo_isSaid_22 (lv_at hl 4 rfl) ?_
            obtain ⟨g3, hg⟩ := tq_gd_s hg
            refine va_iald hx hb hK hP 37 0 rfl rfl g3 d_Mo_isSaid_24 ?_
            refine lv_iload_n hx hb d_Mo_isSaid_25 rfl (lv_at hl 1 rfl) ?_
            refine lv_icmp_ne (tgt := 44) hx hb d_Mo_isSaid_26 (by decide) (fun c4 => ?_) (fun c4 => ?_)
            · replace hg := tq_if_t c4 hg
              refine lv_iconst (v := 1) hx hb d_Mo_isSaid_44 (by decide) ?_
              refine lv_goto (tgt := 49) hx hb d_Mo_isSaid_45 (by decide) ?_
              refine lv_istore_n (lv' := [(3, .int 1), (0, .ref (ad 5)), (1, .int x1), (2, .int x2), (4, .int x4)]) hx hb d_Mo_isSaid_49 rfl hl (by decide) rfl (fun ls hl => ?_)
              obtain ⟨v5, ev5, hg⟩ := tq_lj_s hg
              refine lv_iinc (v := v5) (lv' := [(4, .int v5), (3, .int 1), (0, .ref (ad 5)), (1, .int x1), (2, .int x2)]) hx hb d_Mo_isSaid_50 hl (k := 4) rfl (by rw [ev5]; rfl) (by decide) rfl (fun ls hl => ?_)
              refine lv_goto (tgt := 5) hx hb d_Mo_isSaid_53 (by decide) ?_
              exact ih.2.1 hP hD hS (lv_sub hl [2, 3, 4, 1, 0] rfl) (tq_gi hg hn)
            · replace hg := tq_if_n c4 hg
              refine lv_aload_n hx hb d_Mo_isSaid_29 rfl (lv_at hl 0 rfl) ?_
              refine lv_iload_n hx hb d_Mo_isSaid_30 rfl (lv_at hl 2 rfl) ?_
              refine lv_aload_n hx hb d_Mo_isSaid_31 rfl (lv_at hl 0 rfl) ?_
              refine va_get (D := (dC, dI)) (ci := 5) (v := .ref (ad 38)) (C := "TableauNodesModel") (T := F_Mo) (N := 25) hx hb hts in_Mo hown hK hP 5 rfl rfl 11 (by decide) (hts _ tw_610) (fun _ h9 => h9) rfl d_Mo_isSaid_32 ?_
              refine lv_iload hx hb d_Mo_isSaid_35 (lv_at hl 4 rfl) ?_
              obtain ⟨g6, hg⟩ := tq_gd_s hg
              refine va_iald hx hb hK hP 38 0 rfl rfl g6 d_Mo_isSaid_37 ?_
              obtain ⟨r8, σ9, f7, hg⟩ := tq_ob_s hg
              refine tq_aI (va_runV (As := [.int x2, .int (ia σ 25 x4)]) (rest := []) ⟨hx, hb, hml, hown, hts⟩ (c_Mo_isHeld l dC dI cI cL cZ ad tt H.size σ x2 (ia σ 25 x4)  r8 σ9 f7) (cwV 2 hts (tq_gV tw_743 tw_745 ts_39 tw_6 tw_746) rfl rfl rfl (by decide +kernel) ⟨Nat.le_of_ble_eq_true rfl, Nat.le_of_ble_eq_true rfl⟩) ⟨tq_bl, va_recv hK hP (ci := 5) (q0 := 5) rfl rfl, (tq_pr hP hK hD hS hA hZ hN)⟩ rfl rfl hl.1 rfl (lv_room (Nat.le_of_ble_eq_true rfl)) d_Mo_isSaid_38 ⟨Nat.zero_le _, Nat.zero_le _⟩) hD hS hA (fun H locs hP hD hS => ?_)
              refine lv_if_eq (tgt := 48) hx hb d_Mo_isSaid_41 (by decide) (fun c10 => ?_) (fun c10 => ?_)
              · replace hg := tq_if_t c10 hg
                refine lv_iconst (v := 0) hx hb d_Mo_isSaid_48 (by decide) ?_
                refine lv_istore_n (lv' := [(3, .int 0), (0, .ref (ad 5)), (1, .int x1), (2, .int x2), (4, .int x4)]) hx hb d_Mo_isSaid_49 rfl hl (by decide) rfl (fun ls hl => ?_)
                obtain ⟨v11, ev11, hg⟩ := tq_lj_s hg
                refine lv_iinc (v := v11) (lv' := [(4, .int v11), (3, .int 0), (0, .ref (ad 5)), (1, .int x1), (2, .int x2)]) hx hb d_Mo_isSaid_50 hl (k := 4) rfl (by rw [ev11]; rfl) (by decide) rfl (fun ls hl => ?_)
                refine lv_goto (tgt := 5) hx hb d_Mo_isSaid_53 (by decide) ?_
                exact ih.2.1 hP hD hS (lv_sub hl [2, 3, 4, 1, 0] rfl) (tq_gi hg hn)
              · replace hg := tq_if_f c10 hg
                refine lv_iconst (v := 1) hx hb d_Mo_isSaid_44 (by decide) ?_
                refine lv_goto (tgt := 49) hx hb d_Mo_isSaid_45 (by decide) ?_
                refine lv_istore_n (lv' := [(3, .int 1), (0, .ref (ad 5)), (1, .int x1), (2, .int x2), (4, .int x4)]) hx hb d_Mo_isSaid_49 rfl hl (by decide) rfl (fun ls hl => ?_)
                obtain ⟨v12, ev12, hg⟩ := tq_lj_s hg
                refine lv_iinc (v := v12) (lv' := [(4, .int v12), (3, .int 1), (0, .ref (ad 5)), (1, .int x1), (2, .int x2)]) hx hb d_Mo_isSaid_50 hl (k := 4) rfl (by rw [ev12]; rfl) (by decide) rfl (fun ls hl => ?_)
                refine lv_goto (tgt := 5) hx hb d_Mo_isSaid_53 (by decide) ?_
                exact ih.2.1 hP hD hS (lv_sub hl [2, 3, 4, 1, 0] rfl) (tq_gi hg hn)
      · intro x1 x2 x3 x4 σ H locs ls hP hD hS hl h9
        obtain ⟨q9, hg, hn⟩ := tq_go_s h9 (show ¬ (59 : Nat) = tq_rt by decide)
        replace hg : bk_Mo_isSaid_59 [x1, x2, x3, x4] [] σ = some q9 := hg
        unfold bk_Mo_isSaid_59 at hg
        refine lv_iload hx hb d_Mo_isSaid_59 (lv_at hl 4 rfl) ?_
        refine lv_aload_n hx hb d_Mo_isSaid_61 rfl (lv_at hl 0 rfl) ?_
        refine va_get (D := (dC, dI)) (ci := 5) (v := .int (σ.2.2 17)) (C := "TableauNodesModel") (T := F_Mo) (N := 25) hx hb hts in_Mo hown hK hP 5 rfl rfl 16 (by decide) (hts _ tw_615) (fun _ h9 => h9) rfl d_Mo_isSaid_62 ?_
        refine lv_icmp_ge (tgt := 122) hx hb d_Mo_isSaid_65 (by decide) (fun c13 => ?_) (fun c13 => ?_)
        · replace hg := tq_if_t c13 hg
          refine lv_iload_n hx hb d_Mo_isSaid_122 rfl (lv_at hl 3 rfl) ?_
          obtain ⟨b14, hg⟩ := tq_gb_s hg
          exact W.zret (v := x3) hx hb hr (tq_nb b14) (fun t ht hW => ⟨⟨x3, σ, rfl, tq_grI hg hn, by rw [ht]; exact hP, va_K.moved hW.alike hK, hD⟩, hS.F ht⟩) hS.2.2 d_Mo_isSaid_123
        · replace hg := tq_if_f c13 hg
          refine lv_iload_n hx hb d_Mo_isSaid_68 rfl (lv_at hl 3 rfl) ?_
          refine lv_if_eq (tgt := 122) hx hb d_Mo_isSaid_69 (by decide) (fun c15 => ?_) (fun c15 => ?_)
          · replace hg := tq_if_t c15 hg
            refine lv_iload_n hx hb d_Mo_isSaid_122 rfl (lv_at hl 3 rfl) ?_
            obtain ⟨b16, hg⟩ := tq_gb_s hg
            exact W.zret (v := x3) hx hb hr (tq_nb b16) (fun t ht hW => ⟨⟨x3, σ, rfl, tq_grI hg hn, by rw [ht]; exact hP, va_K.moved hW.alike hK, hD⟩, hS.F ht⟩) hS.2.2 d_Mo_isSaid_123
          · replace hg := tq_if_f c15 hg
            refine lv_aload_n hx hb d_Mo_isSaid_72 rfl (lv_at hl 0 rfl) ?_
            refine va_get (D := (dC, dI)) (ci := 5) (v := .ref (ad 39)) (C := "TableauNodesModel") (T := F_Mo) (N := 25) hx hb hts in_Mo hown hK hP 5 rfl rfl 13 (by decide) (hts _ tw_612) (fun _ h9 => h9) rfl d_Mo_isSaid_73 ?_
            refine lv_iload hx hb d_Mo_isSaid_76 (lv_at hl 4 rfl) ?_
            obtain ⟨g17, hg⟩ := tq_gd_s hg
            refine va_iald hx hb hK hP 39 0 rfl rfl g17 d_Mo_isSaid_78 ?_
            refine lv_iload_n hx hb d_Mo_isSaid_79 rfl (lv_at hl 1 rfl) ?_
            refine lv_icmp_ne (tgt := 110) hx hb d_Mo_isSaid_80 (by decide) (fun c18 => ?_) (fun c18 => ?_)
            · replace hg := tq_if_t c18 hg
              refine lv_iconst (v := 1) hx hb d_Mo_isSaid_110 (by decide) ?_
              refine lv_goto (tgt := 115) hx hb d_Mo_isSaid_111 (by decide) ?_
              refine lv_istore_n (lv' := [(3, .int 1), (0, .ref (ad 5)), (1, .int x1), (2, .int x2), (4, .int x4)]) hx hb d_Mo_isSaid_115 rfl hl (by decide) rfl (fun ls hl => ?_)
              obtain ⟨v19, ev19, hg⟩ := tq_lj_s hg
              refine lv_iinc (v := v19) (lv' := [(4, .int v19), (3, .int 1), (0, .ref (ad 5)), (1, .int x1), (2, .int x2)]) hx hb d_Mo_isSaid_116 hl (k := 4) rfl (by rw [ev19]; rfl) (by decide) rfl (fun ls hl => ?_)
              refine lv_goto (tgt := 59) hx hb d_Mo_isSaid_119 (by decide) ?_
              exact ih.2.2 hP hD hS (lv_sub hl [2, 3, 4, 1, 0] rfl) (tq_gi hg hn)
            · replace hg := tq_if_n c18 hg
              refine lv_aload_n hx hb d_Mo_isSaid_83 rfl (lv_at hl 0 rfl) ?_
              refine va_get (D := (dC, dI)) (ci := 5) (v := .ref (ad 41)) (C := "TableauNodesModel") (T := F_Mo) (N := 25) hx hb hts in_Mo hown hK hP 5 rfl rfl 15 (by decide) (hts _ tw_614) (fun _ h9 => h9) rfl d_Mo_isSaid_84 ?_
              refine lv_iload hx hb d_Mo_isSaid_87 (lv_at hl 4 rfl) ?_
              obtain ⟨g20, hg⟩ := tq_gd_s hg
              refine va_iald hx hb hK hP 41 0 rfl rfl g20 d_Mo_isSaid_89 ?_
              refine lv_iload_n hx hb d_Mo_isSaid_90 rfl (lv_at hl 1 rfl) ?_
              refine lv_icmp_ne (tgt := 110) hx hb d_Mo_isSaid_91 (by decide) (fun c21 => ?_) (fun c21 => ?_)
              · replace hg := tq_if_t c21 hg
                refine lv_iconst (v := 1) hx hb d_Mo_isSaid_110 (by decide) ?_
                refine lv_goto (tgt := 115) hx hb d_Mo_isSaid_111 (by decide) ?_
                refine lv_istore_n (lv' := [(3, .int 1), (0, .ref (ad 5)), (1, .int x1), (2, .int x2), (4, .int x4)]) hx hb d_Mo_isSaid_115 rfl hl (by decide) rfl (fun ls hl => ?_)
                obtain ⟨v22, ev22, hg⟩ := tq_lj_s hg
                refine lv_iinc (v := v22) (lv' := [(4, .int v22), (3, .int 1), (0, .ref (ad 5)), (1, .int x1), (2, .int x2)]) hx hb d_Mo_isSaid_116 hl (k := 4) rfl (by rw [ev22]; rfl) (by decide) rfl (fun ls hl => ?_)
                refine lv_goto (tgt := 59) hx hb d_Mo_isSaid_119 (by decide) ?_
                exact ih.2.2 hP hD hS (lv_sub hl [2, 3, 4, 1, 0] rfl) (tq_gi hg hn)
              · replace hg := tq_if_n c21 hg
                refine lv_aload_n hx hb d_Mo_isSaid_94 rfl (lv_at hl 0 rfl) ?_
                refine lv_iload_n hx hb d_Mo_isSaid_95 rfl (lv_at hl 2 rfl) ?_
                refine lv_iload_n hx hb d_Mo_isSaid_96 rfl (lv_at hl 2 rfl) ?_
                refine lv_aload_n hx hb d_Mo_isSaid_97 rfl (lv_at hl 0 rfl) ?_
                refine va_get (D := (dC, dI)) (ci := 5) (v := .ref (ad 40)) (C := "TableauNodesModel") (T := F_Mo) (N := 25) hx hb hts in_Mo hown hK hP 5 rfl rfl 14 (by decide) (hts _ tw_613) (fun _ h9 => h9) rfl d_Mo_isSaid_98 ?_
                refine lv_iload hx hb d_Mo_isSaid_101 (lv_at hl 4 rfl) ?_
                obtain ⟨g23, hg⟩ := tq_gd_s hg
                refine va_iald hx hb hK hP 40 0 rfl rfl g23 d_Mo_isSaid_103 ?_
                obtain ⟨r25, σ26, f24, hg⟩ := tq_ob_s hg
                refine tq_aI (va_runV (As := [.int x2, .int x2, .int (ia σ 27 x4)]) (rest := []) ⟨hx, hb, hml, hown, hts⟩ (c_Mo_sees l dC dI cI cL cZ ad tt H.size σ x2 x2 (ia σ 27 x4)  r25 σ26 f24) (cwV 3 hts (tq_gV tw_805 tw_807 ts_45 tw_6 tw_808) rfl rfl rfl (by decide +kernel) ⟨Nat.le_of_ble_eq_true rfl, Nat.le_of_ble_eq_true rfl⟩) ⟨tq_bl, va_recv hK hP (ci := 5) (q0 := 5) rfl rfl, (tq_pr hP hK hD hS hA hZ hN)⟩ rfl rfl hl.1 rfl (lv_room (Nat.le_of_ble_eq_true rfl)) d_Mo_isSaid_104 ⟨Nat.zero_le _, Nat.zero_le _⟩) hD hS hA (fun H locs hP hD hS => ?_)
                refine lv_if_eq (tgt := 114) hx hb d_Mo_isSaid_107 (by decide) (fun c27 => ?_) (fun c27 => ?_)
                · replace hg := tq_if_t c27 hg
                  refine lv_iconst (v := 0) hx hb d_Mo_isSaid_114 (by decide) ?_
                  refine lv_istore_n (lv' := [(3, .int 0), (0, .ref (ad 5)), (1, .int x1), (2, .int x2), (4, .int x4)]) hx hb d_Mo_isSaid_115 rfl hl (by decide) rfl (fun ls hl => ?_)
                  obtain ⟨v28, ev28, hg⟩ := tq_lj_s hg
                  refine lv_iinc (v := v28) (lv' := [(4, .int v28), (3, .int 0), (0, .ref (ad 5)), (1, .int x1), (2, .int x2)]) hx hb d_Mo_isSaid_116 hl (k := 4) rfl (by rw [ev28]; rfl) (by decide) rfl (fun ls hl => ?_)
                  refine lv_goto (tgt := 59) hx hb d_Mo_isSaid_119 (by decide) ?_
                  exact ih.2.2 hP hD hS (lv_sub hl [2, 3, 4, 1, 0] rfl) (tq_gi hg hn)
                · replace hg := tq_if_f c27 hg
                  refine lv_iconst (v := 1) hx hb d_Mo_isSaid_110 (by decide) ?_
                  refine lv_goto (tgt := 115) hx hb d_Mo_isSaid_111 (by decide) ?_
                  refine lv_istore_n (lv' := [(3, .int 1), (0, .ref (ad 5)), (1, .int x1), (2, .int x2), (4, .int x4)]) hx hb d_Mo_isSaid_115 rfl hl (by decide) rfl (fun ls hl => ?_)
                  obtain ⟨v29, ev29, hg⟩ := tq_lj_s hg
                  refine lv_iinc (v := v29) (lv' := [(4, .int v29), (3, .int 1), (0, .ref (ad 5)), (1, .int x1), (2, .int x2)]) hx hb d_Mo_isSaid_116 hl (k := 4) rfl (by rw [ev29]; rfl) (by decide) rfl (fun ls hl => ?_)
                  refine lv_goto (tgt := 59) hx hb d_Mo_isSaid_119 (by decide) ?_
                  exact ih.2.2 hP hD hS (lv_sub hl [2, 3, 4, 1, 0] rfl) (tq_gi hg hn)
  exact (key n0).1 hP hD hS hl h0
noncomputable def bk_Mo_isLeft_0 : List Int32 → List Int64 → tq_S → Option tq_C
  | [x1, x2], [], σ => tq_lj (x1 + 1) (fun v1 => some (7, [x1, x2, 1, v1], [], σ))
  | _, _, _ => none
noncomputable def bk_Mo_isLeft_7 : List Int32 → List Int64 → tq_S → Option tq_C
  | [x1, x2, x3, x4], [], σ => if 5 ≤ x4 then tq_gb x3 (some (tq_rt, [x3], [], σ)) else if x3 = 0 then tq_gb x3 (some (tq_rt, [x3], [], σ)) else some (23, [x1, x2, x4, 0, 0], [], σ)
  | _, _, _ => none
noncomputable def bk_Mo_isLeft_23 : List Int32 → List Int64 → tq_S → Option tq_C
  | [x1, x2, x4, x5, x6], [], σ => tq_ob (tq_fI st_Mo_size (0, [], [], σ)) (fun r7 σ8 => if r7 ≤ x6 then tq_lj (x4 + 1) (fun v10 => some (7, [x1, x2, x5, v10], [], σ8)) else tq_ob (tq_fI st_Mo_at (0, [x1, x4, x6], [], σ8)) (fun r12 σ13 => tq_gd r12 30720 (tq_lj (ia σ13 33 r12) (fun v15 => some (50, [x1, x2, x4, x5, x6, v15, 0], [], σ13)))))
  | _, _, _ => none
noncomputable def bk_Mo_isLeft_50 : List Int32 → List Int64 → tq_S → Option tq_C
  | [x1, x2, x4, x5, x6, x7, x8], [], σ => if (σ.2.2 17) ≤ x8 then some (151, [x1, x2, x4, x5, x6, x7], [], σ) else if x7 = 0 then some (151, [x1, x2, x4, x5, x6, x7], [], σ) else tq_gd x8 40 (if ¬ (ia σ 26 x8) = x1 then some (106, [x1, x2, x4, x5, x6, x7, x8], [], σ) else tq_gd x8 40 (if ¬ (ia σ 28 x8) = x4 then some (106, [x1, x2, x4, x5, x6, x7, x8], [], σ) else tq_gd x8 40 (tq_ob (tq_fI st_Mo_sees (0, [x2, x6, (ia σ 27 x8)], [], σ)) (fun r24 σ25 => tq_lj (x8 + 1) (fun v26 => some (50, [x1, x2, x4, x5, x6, r24, v26], [], σ25))))))
  | _, _, _ => none
noncomputable def bk_Mo_isLeft_106 : List Int32 → List Int64 → tq_S → Option tq_C
  | [x1, x2, x4, x5, x6, x7, x8], [], σ => tq_gd x8 40 (if ¬ (ia σ 26 x8) = x4 then tq_lj (x8 + 1) (fun v29 => some (50, [x1, x2, x4, x5, x6, x7, v29], [], σ)) else tq_gd x8 40 (if ¬ (ia σ 28 x8) = x1 then tq_lj (x8 + 1) (fun v32 => some (50, [x1, x2, x4, x5, x6, x7, v32], [], σ)) else tq_gd x8 40 (tq_ob (tq_fI st_Mo_sees (0, [x6, x2, (ia σ 27 x8)], [], σ)) (fun r35 σ36 => tq_lj (x8 + 1) (fun v37 => some (50, [x1, x2, x4, x5, x6, r35, v37], [], σ36))))))
  | _, _, _ => none
noncomputable def bk_Mo_isLeft_151 : List Int32 → List Int64 → tq_S → Option tq_C
  | [x1, x2, x4, x5, x6, x7], [], σ => tq_ob (tq_fI st_Mo_at (0, [(x1 + 1), x4, x6], [], σ)) (fun r39 σ40 => tq_gd r39 30720 (tq_lj (iput σ40 33 r39.toNatClampNeg (jz x7)) (fun σ42 => if ¬ x5 = 0 then tq_lj (x6 + 1) (fun v44 => some (23, [x1, x2, x4, 1, v44], [], σ42)) else if x7 = 0 then tq_lj (x6 + 1) (fun v46 => some (23, [x1, x2, x4, 0, v46], [], σ42)) else tq_lj (x6 + 1) (fun v47 => some (23, [x1, x2, x4, 1, v47], [], σ42)))))
  | _, _, _ => none
noncomputable def st_Mo_isLeft (c : tq_C) : Option tq_C := if c.1 = 0 then bk_Mo_isLeft_0 c.2.1 c.2.2.1 c.2.2.2 else if c.1 = 7 then bk_Mo_isLeft_7 c.2.1 c.2.2.1 c.2.2.2 else if c.1 = 23 then bk_Mo_isLeft_23 c.2.1 c.2.2.1 c.2.2.2 else if c.1 = 50 then bk_Mo_isLeft_50 c.2.1 c.2.2.1 c.2.2.2 else if c.1 = 106 then bk_Mo_isLeft_106 c.2.1 c.2.2.1 c.2.2.2 else if c.1 = 151 then bk_Mo_isLeft_151 c.2.1 c.2.2.1 c.2.2.2 else none
set_option maxHeartbeats 40000000 in
set_option maxRecDepth 100000 in
theorem c_Mo_isLeft (l : Launch) (dC : Nat → ClassId) (dI : Nat → Nat → Nat) (cI cL cZ : ClassId) (ad : Nat → Nat) (tt : Nat) (sz : Nat) (σ : tq_S) (a1 : Int32) (a2 : Int32) (r : Int32) (σ' : tq_S) (hf : tq_fI st_Mo_isLeft (0, [a1, a2], [], σ) = some (r, σ')) : Met l y_Mo_isLeft w_Mo_isLeft ({ frames := 2, cells := 0, slots := 0, locals := 48 } : Room) (va_Pc [.ref (ad 5), .int a1, .int a2] (tq_B dC dI cI cL cZ tt (wo cI cL cZ ad σ) sz)) (va_Qi (fun (r' : Int32) (u : tq_S) => r' = r ∧ u = σ') (tq_E dC dI cI cL cZ (wo cI cL cZ ad) (va_A (wo cI cL cZ ad σ) sz)) (va_A (wo cI cL cZ ad σ) sz)) 0 0 (va_A (wo cI cL cZ ad σ) sz) := by
  obtain ⟨n0, h0⟩ := tq_fI_to hf
  refine Met.ofW (cc := prog_7_method_35_code) (maxL := 9) (ret := (some .boolean)) (by decide) rfl ?_
  intro p e s m args below meth c s₁ B hml hv
  obtain ⟨rfl, hsz, hP, hK, hD0, hZ, hN⟩ := hv
  have hx := B.exec
  have hb := B.bytes
  have hr := B.returns
  have hts : ∀ w ∈ tq_T, w.before _ s = true := fun w h => atoms_spec (ws := w_Mo_isLeft) B.pre w (List.mem_cons_of_mem _ h)
  have hown : s.vm.findClass "TableauNodesModel" = some m.cls := findClass_of_methodNamed B.named
  have hlocks := B.notSynchronized
  subst hsz
  have hD := hD0.self (sz := s.heap.size)
  have hS : va_S (va_A (wo cI cL cZ ad σ) s.heap.size) s.heap s.heap [] := va_S.rf
  have hA : ∀ q : Nat, s.heap.size ≤ q → va_A (wo cI cL cZ ad σ) s.heap.size q := fun q h => Or.inr h
  generalize va_A (wo cI cL cZ ad σ) s.heap.size = A at hD hS hA hZ ⊢
  have hl := lv_entry ([.ref (ad 5), .int a1, .int a2]) (n := 9) (Nat.le_of_ble_eq_true rfl)
  rw [lg_entry_eq]
  generalize (lg_sl ([.ref (ad 5), .int a1, .int a2]) ++ List.replicate (9 - (lg_sl ([.ref (ad 5), .int a1, .int a2])).length) Slot.unset).toArray = ls at hl ⊢
  have hl : lv_has ls 9 [(0, .ref (ad 5)), (1, .int a1), (2, .int a2)] := hl
  have key : ∀ n : Nat, (∀ {x1 x2 : Int32} {σ : tq_S} {H : Heap} {locs : List Loc} {ls : Array Slot}, va_P (dC, dI) tq_cl (wo cI cL cZ ad σ) H → va_D A (wo cI cL cZ ad σ) → va_S A s.heap H locs → lv_has ls 9 [(0, .ref (ad 5)), (1, .int x1), (2, .int x2)] → tq_go st_Mo_isLeft n (0, [x1, x2], [], σ) = some (tq_rt, [r], [], σ') → W p l e (headSpec w_Mo_isLeft ({ frames := 2, cells := 0, slots := 0, locals := 48 } : Room)).room s m ([.ref (ad 5), .int a1, .int a2] : List Value).toArray below meth c H locs 0 0 (MQ below (va_Qi (fun (r' : Int32) (u : tq_S) => r' = r ∧ u = σ') (tq_E dC dI cI cL cZ (wo cI cL cZ ad) A) A) ([.ref (ad 5), .int a1, .int a2] : List Value).toArray s 0 0 A) (F0 m 0 ls [])) ∧ (∀ {x1 x2 x3 x4 : Int32} {σ : tq_S} {H : Heap} {locs : List Loc} {ls : Array Slot}, va_P (dC, dI) tq_cl (wo cI cL cZ ad σ) H → va_D A (wo cI cL cZ ad σ) → va_S A s.heap H locs → lv_has ls 9 [(0, .ref (ad 5)), (1, .int x1), (2, .int x2), (3, .int x3), (4, .int x4)] → tq_go st_Mo_isLeft n (7, [x1, x2, x3, x4], [], σ) = some (tq_rt, [r], [], σ') → W p l e (headSpec w_Mo_isLeft ({ frames := 2, cells := 0, slots := 0, locals := 48 } : Room)).room s m ([.ref (ad 5), .int a1, .int a2] : List Value).toArray below meth c H locs 0 0 (MQ below (va_Qi (fun (r' : Int32) (u : tq_S) => r' = r ∧ u = σ') (tq_E dC dI cI cL cZ (wo cI cL cZ ad) A) A) ([.ref (ad 5), .int a1, .int a2] : List Value).toArray s 0 0 A) (F0 m 7 ls [])) ∧ (∀ {x1 x2 x4 x5 x6 : Int32} {σ : tq_S} {H : Heap} {locs : List Loc} {ls : Array Slot}, va_P (dC, dI) tq_cl (wo cI cL cZ ad σ) H → va_D A (wo cI cL cZ ad σ) → va_S A s.heap H locs → lv_has ls 9 [(0, .ref (ad 5)), (1, .int x1), (2, .int x2), (4, .int x4), (5, .int x5), (6, .int x6)] → tq_go st_Mo_isLeft n (23, [x1, x2, x4, x5, x6], [], σ) = some (tq_rt, [r], [], σ') → W p l e (headSpec w_Mo_isLeft ({ frames := 2, cells := 0, slots := 0, locals := 48 } : Room)).room s m ([.ref (ad 5), .int a1, .int a2] : List Value).toArray below meth c H locs 0 0 (MQ below (va_Qi (fun (r' : Int32) (u : tq_S) => r' = r ∧ u = σ') (tq_E dC dI cI cL cZ (wo cI cL cZ ad) A) A) ([.ref (ad 5), .int a1, .int a2] : List Value).toArray s 0 0 A) (F0 m 23 ls [])) ∧ (∀ {x1 x2 x4 x5 x6 x7 x8 : Int32} {σ : tq_S} {H : Heap} {locs : List Loc} {ls : Array Slot}, va_P (dC, dI) tq_cl (wo cI cL cZ ad σ) H → va_D A (wo cI cL cZ ad σ) → va_S A s.heap H locs → lv_has ls 9 [(0, .ref (ad 5)), (1, .int x1), (2, .int x2), (4, .int x4), (5, .int x5), (6, .int x6), (7, .int x7), (8, .int x8)] → tq_go st_Mo_isLeft n (50, [x1, x2, x4, x5, x6, x7, x8], [], σ) = some (tq_rt, [r], [], σ') → W p l e (headSpec w_Mo_isLeft ({ frames := 2, cells := 0, slots := 0, locals := 48 } : Room)).room s m ([.ref (ad 5), .int a1, .int a2] : List Value).toArray below meth c H locs 0 0 (MQ below (va_Qi (fun (r' : Int32) (u : tq_S) => r' = r ∧ u = σ') (tq_E dC dI cI cL cZ (wo cI cL cZ ad) A) A) ([.ref (ad 5), .int a1, .int a2] : List Value).toArray s 0 0 A) (F0 m 50 ls [])) ∧ (∀ {x1 x2 x4 x5 x6 x7 x8 : Int32} {σ : tq_S} {H : Heap} {locs : List Loc} {ls : Array Slot}, va_P (dC, dI) tq_cl (wo cI cL cZ ad σ) H → va_D A (wo cI cL cZ ad σ) → va_S A s.heap H locs → lv_has ls 9 [(0, .ref (ad 5)), (1, .int x1), (2, .int x2), (4, .int x4), (5, .int x5), (6, .int x6), (7, .int x7), (8, .int x8)] → tq_go st_Mo_isLeft n (106, [x1, x2, x4, x5, x6, x7, x8], [], σ) = some (tq_rt, [r], [], σ') → W p l e (headSpec w_Mo_isLeft ({ frames := 2, cells := 0, slots := 0, locals := 48 } : Room)).room s m ([.ref (ad 5), .int a1, .int a2] : List Value).toArray below meth c H locs 0 0 (MQ below (va_Qi (fun (r' : Int32) (u : tq_S) => r' = r ∧ u = σ') (tq_E dC dI cI cL cZ (wo cI cL cZ ad) A) A) ([.ref (ad 5), .int a1, .int a2] : List Value).toArray s 0 0 A) (F0 m 106 ls [])) ∧ (∀ {x1 x2 x4 x5 x6 x7 : Int32} {σ : tq_S} {H : Heap} {locs : List Loc} {ls : Array Slot}, va_P (dC, dI) tq_cl (wo cI cL cZ ad σ) H → va_D A (wo cI cL cZ ad σ) → va_S A s.heap H locs → lv_has ls 9 [(0, .ref (ad 5)), (1, .int x1), (2, .int x2), (4, .int x4), (5, .int x5), (6, .int x6), (7, .int x7)] → tq_go st_Mo_isLeft n (151, [x1, x2, x4, x5, x6, x7], [], σ) = some (tq_rt, [r], [], σ') → W p l e (headSpec w_Mo_isLeft ({ frames := 2, cells := 0, slots := 0, locals := 48 } : Room)).room s m ([.ref (ad 5), .int a1, .int a2] : List Value).toArray below meth c H locs 0 0 (MQ below (va_Qi (fun (r' : Int32) (u : tq_S) => r' = r ∧ u = σ') (tq_E dC dI cI cL cZ (wo cI cL cZ ad) A) A) ([.ref (ad 5), .int a1, .int a2] : List Value).toArray s 0 0 A) (F0 m 151 ls [])) := by
    intro n
    induction n with
    | zero => exact ⟨(fun _ _ _ _ h => by cases h), (fun _ _ _ _ h => by cases h), (fun _ _ _ _ h => by cases h), (fun _ _ _ _ h => by cases h), (fun _ _ _ _ h => by cases h), (fun _ _ _ _ h => by cases h)⟩
    | succ n ih =>
      refine ⟨?_, ?_, ?_, ?_, ?_, ?_⟩
      · intro x1 x2 σ H locs ls hP hD hS hl h9
        obtain ⟨q9, hg, hn⟩ := tq_go_s h9 (show ¬ (0 : Nat) = tq_rt by decide)
        replace hg : bk_Mo_isLeft_0 [x1, x2] [] σ = some q9 := hg
        unfold bk_Mo_isLeft_0 at hg
        refine lv_iconst (v := 1) hx hb d_Mo_isLeft_0 (by decide) ?_
        refine lv_istore_n (lv' := [(3, .int 1), (0, .ref (ad 5)), (1, .int x1), (2, .int x2)]) hx hb d_Mo_isLeft_1 rfl hl (by decide) rfl (fun ls hl => ?_)
        refine lv_iload_n hx hb d_Mo_isLeft_2 rfl (lv_at hl 2 rfl) ?_
        refine lv_iconst (v := 1) hx hb d_Mo_isLeft_3 (by decide) ?_
        refine lv_iadd hx hb d_Mo_isLeft_4 ?_
        obtain ⟨v1, ev1, hg⟩ := tq_lj_s hg
        refine tq_nmi ev1 ?_
        refine lv_istore (lv' := [(4, .int v1), (3, .int 1), (0, .ref (ad 5)), (1, .int x1), (2, .int x2)]) hx hb d_Mo_isLeft_5 hl (by decide) rfl (fun ls hl => ?_)
        exact ih.2.1 hP hD hS (lv_sub hl [2, 3, 4, 1, 0] rfl) (tq_gi hg hn)
      · intro x1 x2 x3 x4 σ H locs ls hP hD hS hl h9
        obtain ⟨q9, hg, hn⟩ := tq_go_s h9 (show ¬ (7 : Nat) = tq_rt by decide)
        replace hg : bk_Mo_isLeft_7 [x1, x2, x3, x4] [] σ = some q9 := hg
        unfold bk_Mo_isLeft_7 at hg
        refine lv_iload hx hb d_Mo_isLeft_7 (lv_at hl 4 rfl) ?_
        refine lv_iconst (v := 5) hx hb d_Mo_isLeft_9 (by decide) ?_
        refine lv_icmp_ge (tgt := 200) hx hb d_Mo_isLeft_10 (by decide) (fun c2 => ?_) (fun c2 => ?_)
        · replace hg := tq_if_t c2 hg
          refine lv_iload_n hx hb d_Mo_isLeft_200 rfl (lv_at hl 3 rfl) ?_
          obtain ⟨b3, hg⟩ := tq_gb_s hg
          exact W.zret (v := x3) hx hb hr (tq_nb b3) (fun t ht hW => ⟨⟨x3, σ, rfl, tq_grI hg hn, by rw [ht]; exact hP, va_K.moved hW.alike hK, hD⟩, hS.F ht⟩) hS.2.2 d_Mo_isLeft_201
        · replace hg := tq_if_f c2 hg
          refine lv_iload_n hx hb d_Mo_isLeft_13 rfl (lv_at hl 3 rfl) ?_
          refine lv_if_eq (tgt := 200) hx hb d_Mo_isLeft_14 (by decide) (fun c4 => ?_) (fun c4 => ?_)
          · replace hg := tq_if_t c4 hg
            refine lv_iload_n hx hb d_Mo_isLeft_200 rfl (lv_at hl 3 rfl) ?_
            obtain ⟨b5, hg⟩ := tq_gb_s hg
            exact W.zret (v := x3) hx hb hr (tq_nb b5) (fun t ht hW => ⟨⟨x3, σ, rfl, tq_grI hg hn, by rw [ht]; exact hP, va_K.moved hW.alike hK, hD⟩, hS.F ht⟩) hS.2.2 d_Mo_isLeft_201
          · replace hg := tq_if_f c4 hg
            refine lv_iconst (v := 0) hx hb d_Mo_isLeft_17 (by decide) ?_
            refine lv_istore (lv' := [(5, .int 0), (0, .ref (ad 5)), (1, .int x1), (2, .int x2), (3, .int x3), (4, .int x4)]) hx hb d_Mo_isLeft_18 hl (by decide) rfl (fun ls hl => ?_)
            refine lv_iconst (v := 0) hx hb d_Mo_isLeft_20 (by decide) ?_
            refine lv_istore (lv' := [(6, .int 0), (5, .int 0), (0, .ref (ad 5)), (1, .int x1), (2, .int x2), (3, .int x3), (4, .int x4)]) hx hb d_Mo_isLeft_21 hl (by decide) rfl (fun ls hl => ?_)
            exact ih.2.2.1 hP hD hS (lv_sub hl [2, 3, 4, 6, 1, 0] rfl) (tq_gi hg hn)
      · intro x1 x2 x4 x5 x6 σ H locs ls hP hD hS hl h9
        obtain ⟨q9, hg, hn⟩ := tq_go_s h9 (show ¬ (23 : Nat) = tq_rt by decide)
        replace hg : bk_Mo_isLeft_23 [x1, x2, x4, x5, x6] [] σ = some q9 := hg
        unfold bk_Mo_isLeft_23 at hg
        refine lv_iload hx hb d_Mo_isLeft_23 (lv_at hl 5 rfl) ?_
        refine lv_aload_n hx hb d_Mo_isLeft_25 rfl (lv_at hl 0 rfl) ?_
        obtain ⟨r7, σ8, f6, hg⟩ := tq_ob_s hg
        refine tq_aI (va_runV (As := []) (rest := [.int x6]) ⟨hx, hb, hml, hown, hts⟩ (c_Mo_size l dC dI cI cL cZ ad tt H.size σ   r7 σ8 f6) (cwV 0 hts (tq_gV tw_731 tw_733 ts_36 tw_6 tw_734) rfl rfl rfl (by decide +kernel) ⟨Nat.le_of_ble_eq_true rfl, Nat.le_of_ble_eq_true rfl⟩) ⟨tq_bl, va_recv hK hP (ci := 5) (q0 := 5) rfl rfl, (tq_pr hP hK hD hS hA hZ hN)⟩ rfl rfl hl.1 rfl (lv_room (Nat.le_of_ble_eq_true rfl)) d_Mo_isLeft_26 ⟨Nat.zero_le _, Nat.zero_le _⟩) hD hS hA (fun H locs hP hD hS => ?_)
        refine lv_icmp_ge (tgt := 191) hx hb d_Mo_isLeft_29 (by decide) (fun c9 => ?_) (fun c9 => ?_)
        · replace hg := tq_if_t c9 hg
          refine lv_iload hx hb d_Mo_isLeft_191 (lv_at hl 4 rfl) ?_
          refine lv_istore_n (lv' := [(3, .int x5), (0, .ref (ad 5)), (1, .int x1), (2, .int x2), (4, .int x4), (5, .int x5), (6, .int x6)]) hx hb d_Mo_isLeft_193 rfl hl (by decide) rfl (fun ls hl => ?_)
          obtain ⟨v10, ev10, hg⟩ := tq_lj_s hg
          refine lv_iinc (v := v10) (lv' := [(4, .int v10), (3, .int x5), (0, .ref (ad 5)), (1, .int x1), (2, .int x2), (5, .int x5), (6, .int x6)]) hx hb d_Mo_isLeft_194 hl (k := 4) rfl (by rw [ev10]; rfl) (by decide) rfl (fun ls hl => ?_)
          refine lv_goto (tgt := 7) hx hb d_Mo_isLeft_197 (by decide) ?_
          exact ih.2.1 hP hD hS (lv_sub hl [2, 3, 4, 1, 0] rfl) (tq_gi hg hn)
        · replace hg := tq_if_f c9 hg
          refine lv_aload_n hx hb d_Mo_isLeft_32 rfl (lv_at hl 0 rfl) ?_
          refine va_get (D := (dC, dI)) (ci := 5) (v := .ref (ad 46)) (C := "TableauNodesModel") (T := F_Mo) (N := 25) hx hb hts in_Mo hown hK hP 5 rfl rfl 23 (by decide) (hts _ tw_622) (fun _ h9 => h9) rfl d_Mo_isLeft_33 ?_
          refine lv_iload_n hx hb d_Mo_isLeft_36 rfl (lv_at hl 1 rfl) ?_
          refine lv_iload hx hb d_Mo_isLeft_37 (lv_at hl 3 rfl) ?_
          refine lv_iload hx hb d_Mo_isLeft_39 (lv_at hl 5 rfl) ?_
          obtain ⟨r12, σ13, f11, hg⟩ := tq_ob_s hg
          refine tq_aI (va_runS (As := [.int x1, .int x4, .int x6]) (rest := [.ref (ad 46)]) ⟨hx, hb, hml, hown, hts⟩ (c_Mo_at l dC dI cI cL cZ ad tt H.size σ8 x1 x4 x6  r12 σ13 f11) (va_cwS 3 hts (tq_gS tw_798 tw_799 tw_6 tw_800) rfl rfl rfl (by decide +kernel) ⟨Nat.le_of_ble_eq_true rfl, Nat.le_of_ble_eq_true rfl⟩) ⟨tq_bl, (tq_pr hP hK hD hS hA hZ hN)⟩ rfl rfl hl.1 rfl (lv_room (Nat.le_of_ble_eq_true rfl)) d_Mo_isLeft_41 ⟨Nat.zero_le _, Nat.zero_le _⟩) hD hS hA (fun H locs hP hD hS => ?_)
          obtain ⟨g14, hg⟩ := tq_gd_s hg
          refine va_zald hx hb hK hP 46 2 rfl rfl g14 d_Mo_isLeft_44 ?_
          obtain ⟨v15, ev15, hg⟩ := tq_lj_s hg
          refine tq_nmi ev15 ?_
          refine lv_istore (lv' := [(7, .int v15), (0, .ref (ad 5)), (1, .int x1), (2, .int x2), (4, .int x4), (5, .int x5), (6, .int x6)]) hx hb d_Mo_isLeft_45 hl (by decide) rfl (fun ls hl => ?_)
          refine lv_iconst (v := 0) hx hb d_Mo_isLeft_47 (by decide) ?_
          refine lv_istore (lv' := [(8, .int 0), (7, .int v15), (0, .ref (ad 5)), (1, .int x1), (2, .int x2), (4, .int x4), (5, .int x5), (6, .int x6)]) hx hb d_Mo_isLeft_48 hl (by decide) rfl (fun ls hl => ?_)
          exact ih.2.2.2.1 hP hD hS (lv_sub hl [2, 3, 4, 5, 6, 7, 1, 0] rfl) (tq_gi hg hn)
      · intro x1 x2 x4 x5 x6 x7 x8 σ H locs ls hP hD hS hl h9
        obtain ⟨q9, hg, hn⟩ := tq_go_s h9 (show ¬ (50 : Nat) = tq_rt by decide)
        replace hg : bk_Mo_isLeft_50 [x1, x2, x4, x5, x6, x7, x8] [] σ = some q9 := hg
        unfold bk_Mo_isLeft_50 at hg
        refine lv_iload hx hb d_Mo_isLeft_50 (lv_at hl 7 rfl) ?_
        refine lv_aload_n hx hb d_Mo_isLeft_52 rfl (lv_at hl 0 rfl) ?_
        refine va_get (D := (dC, dI)) (ci := 5) (v := .int (σ.2.2 17)) (C := "TableauNodesModel") (T := F_Mo) (N := 25) hx hb hts in_Mo hown hK hP 5 rfl rfl 16 (by decide) (hts _ tw_615) (fun _ h9 => h9) rfl d_Mo_isLeft_53 ?_
        refine lv_icmp_ge (tgt := 151) hx hb d_Mo_isLeft_56 (by decide) (fun c16 => ?_) (fun c16 => ?_)
        · replace hg := tq_if_t c16 hg
          exact ih.2.2.2.2.2 hP hD hS (lv_sub hl [0, 1, 2, 3, 4, 5, 6] rfl) (tq_gi hg hn)
        · replace hg := tq_if_f c16 hg
          refine lv_iload hx hb d_Mo_isLeft_59 (lv_at hl 6 rfl) ?_
          refine lv_if_eq (tgt := 151) hx hb d_Mo_isLeft_61 (by decide) (fun c17 => ?_) (fun c17 => ?_)
          · replace hg := tq_if_t c17 hg
            exact ih.2.2.2.2.2 hP hD hS (lv_sub hl [0, 1, 2, 3, 4, 5, 6] rfl) (tq_gi hg hn)
          · replace hg := tq_if_f c17 hg
            refine lv_aload_n hx hb d_Mo_isLeft_64 rfl (lv_at hl 0 rfl) ?_
            refine va_get (D := (dC, dI)) (ci := 5) (v := .ref (ad 39)) (C := "TableauNodesModel") (T := F_Mo) (N := 25) hx hb hts in_Mo hown hK hP 5 rfl rfl 13 (by decide) (hts _ tw_612) (fun _ h9 => h9) rfl d_Mo_isLeft_65 ?_
            refine lv_iload hx hb d_Mo_isLeft_68 (lv_at hl 7 rfl) ?_
            obtain ⟨g18, hg⟩ := tq_gd_s hg
            refine va_iald hx hb hK hP 39 0 rfl rfl g18 d_Mo_isLeft_70 ?_
            refine lv_iload_n hx hb d_Mo_isLeft_71 rfl (lv_at hl 1 rfl) ?_
            refine lv_icmp_ne (tgt := 106) hx hb d_Mo_isLeft_72 (by decide) (fun c19 => ?_) (fun c19 => ?_)
            · replace hg := tq_if_t c19 hg
              exact ih.2.2.2.2.1 hP hD hS (lv_sub hl [0, 1, 2, 3, 4, 5, 6, 7] rfl) (tq_gi hg hn)
            · replace hg := tq_if_n c19 hg
              refine lv_aload_n hx hb d_Mo_isLeft_75 rfl (lv_at hl 0 rfl) ?_
              refine va_get (D := (dC, dI)) (ci := 5) (v := .ref (ad 41)) (C := "TableauNodesModel") (T := F_Mo) (N := 25) hx hb hts in_Mo hown hK hP 5 rfl rfl 15 (by decide) (hts _ tw_614) (fun _ h9 => h9) rfl d_Mo_isLeft_76 ?_
              refine lv_iload hx hb d_Mo_isLeft_79 (lv_at hl 7 rfl) ?_
              obtain ⟨g20, hg⟩ := tq_gd_s hg
              refine va_iald hx hb hK hP 41 0 rfl rfl g20 d_Mo_isLeft_81 ?_
              refine lv_iload hx hb d_Mo_isLeft_82 (lv_at hl 3 rfl) ?_
              refine lv_icmp_ne (tgt := 106) hx hb d_Mo_isLeft_84 (by decide) (fun c21 => ?_) (fun c21 => ?_)
              · replace hg := tq_if_t c21 hg
                exact ih.2.2.2.2.1 hP hD hS (lv_sub hl [0, 1, 2, 3, 4, 5, 6, 7] rfl) (tq_gi hg hn)
              · replace hg := tq_if_n c21 hg
                refine lv_aload_n hx hb d_Mo_isLeft_87 rfl (lv_at hl 0 rfl) ?_
                refine lv_iload_n hx hb d_Mo_isLeft_88 rfl (lv_at hl 2 rfl) ?_
                refine lv_iload hx hb d_Mo_isLeft_89 (lv_at hl 5 rfl) ?_
                refine lv_aload_n hx hb d_Mo_isLeft_91 rfl (lv_at hl 0 rfl) ?_
                refine va_get (D := (dC, dI)) (ci := 5) (v := .ref (ad 40)) (C := "TableauNodesModel") (T := F_Mo) (N := 25) hx hb hts in_Mo hown hK hP 5 rfl rfl 14 (by decide) (hts _ tw_613) (fun _ h9 => h9) rfl d_Mo_isLeft_92 ?_
                refine lv_iload hx hb d_Mo_isLeft_95 (lv_at hl 7 rfl) ?_
                obtain ⟨g22, hg⟩ := tq_gd_s hg
                refine va_iald hx hb hK hP 40 0 rfl rfl g22 d_Mo_isLeft_97 ?_
                obtain ⟨r24, σ25, f23, hg⟩ := tq_ob_s hg
                refine tq_aI (va_runV (As := [.int x2, .int x6, .int (ia σ 27 x8)]) (rest := []) ⟨hx, hb, hml, hown, hts⟩ (c_Mo_sees l dC dI cI cL cZ ad tt H.size σ x2 x6 (ia σ 27 x8)  r24 σ25 f23) (cwV 3 hts (tq_gV tw_805 tw_807 ts_45 tw_6 tw_808) rfl rfl rfl (by decide +kernel) ⟨Nat.le_of_ble_eq_true rfl, Nat.le_of_ble_eq_true rfl⟩) ⟨tq_bl, va_recv hK hP (ci := 5) (q0 := 5) rfl rfl, (tq_pr hP hK hD hS hA hZ hN)⟩ rfl rfl hl.1 rfl (lv_room (Nat.le_of_ble_eq_true rfl)) d_Mo_isLeft_98 ⟨Nat.zero_le _, Nat.zero_le _⟩) hD hS hA (fun H locs hP hD hS => ?_)
                refine lv_istore (lv' := [(7, .int r24), (0, .ref (ad 5)), (1, .int x1), (2, .int x2), (4, .int x4), (5, .int x5), (6, .int x6), (8, .int x8)]) hx hb d_Mo_isLeft_101 hl (by decide) rfl (fun ls hl => ?_)
                refine lv_goto (tgt := 145) hx hb d_Mo_isLeft_103 (by decide) ?_
                obtain ⟨v26, ev26, hg⟩ := tq_lj_s hg
                refine lv_iinc (v := v26) (lv' := [(8, .int v26), (7, .int r24), (0, .ref (ad 5)), (1, .int x1), (2, .int x2), (4, .int x4), (5, .int x5), (6, .int x6)]) hx hb d_Mo_isLeft_145 hl (k := 7) rfl (by rw [ev26]; rfl) (by decide) rfl (fun ls hl => ?_)
                refine lv_goto (tgt := 50) hx hb d_Mo_isLeft_148 (by decide) ?_
                exact ih.2.2.2.1 hP hD hS (lv_sub hl [2, 3, 4, 5, 6, 7, 1, 0] rfl) (tq_gi hg hn)
      · intro x1 x2 x4 x5 x6 x7 x8 σ H locs ls hP hD hS hl h9
        obtain ⟨q9, hg, hn⟩ := tq_go_s h9 (show ¬ (106 : Nat) = tq_rt by decide)
        replace hg : bk_Mo_isLeft_106 [x1, x2, x4, x5, x6, x7, x8] [] σ = some q9 := hg
        unfold bk_Mo_isLeft_106 at hg
        refine lv_aload_n hx hb d_Mo_isLeft_106 rfl (lv_at hl 0 rfl) ?_
        refine va_get (D := (dC, dI)) (ci := 5) (v := .ref (ad 39)) (C := "TableauNodesModel") (T := F_Mo) (N := 25) hx hb hts in_Mo hown hK hP 5 rfl rfl 13 (by decide) (hts _ tw_612) (fun _ h9 => h9) rfl d_Mo_isLeft_107 ?_
        refine lv_iload hx hb d_Mo_isLeft_110 (lv_at hl 7 rfl) ?_
        obtain ⟨g27, hg⟩ := tq_gd_s hg
        refine va_iald hx hb hK hP 39 0 rfl rfl g27 d_Mo_isLeft_112 ?_
        refine lv_iload hx hb d_Mo_isLeft_113 (lv_at hl 3 rfl) ?_
        refine lv_icmp_ne (tgt := 145) hx hb d_Mo_isLeft_115 (by decide) (fun c28 => ?_) (fun c28 => ?_)
        · replace hg := tq_if_t c28 hg
          obtain ⟨v29, ev29, hg⟩ := tq_lj_s hg
          refine lv_iinc (v := v29) (lv' := [(8, .int v29), (0, .ref (ad 5)), (1, .int x1), (2, .int x2), (4, .int x4), (5, .int x5), (6, .int x6), (7, .int x7)]) hx hb d_Mo_isLeft_145 hl (k := 7) rfl (by rw [ev29]; rfl) (by decide) rfl (fun ls hl => ?_)
          refine lv_goto (tgt := 50) hx hb d_Mo_isLeft_148 (by decide) ?_
          exact ih.2.2.2.1 hP hD hS (lv_sub hl [1, 2, 3, 4, 5, 6, 7, 0] rfl) (tq_gi hg hn)
        · replace hg := tq_if_n c28 hg
          refine lv_aload_n hx hb d_Mo_isLeft_118 rfl (lv_at hl 0 rfl) ?_
          refine va_get (D := (dC, dI)) (ci := 5) (v := .ref (ad 41)) (C := "TableauNodesModel") (T := F_Mo) (N := 25) hx hb hts in_Mo hown hK hP 5 rfl rfl 15 (by decide) (hts _ tw_614) (fun _ h9 => h9) rfl d_Mo_isLeft_119 ?_
          refine lv_iload hx hb d_Mo_isLeft_122 (lv_at hl 7 rfl) ?_
          obtain ⟨g30, hg⟩ := tq_gd_s hg
          refine va_iald hx hb hK hP 41 0 rfl rfl g30 d_Mo_isLeft_124 ?_
          refine lv_iload_n hx hb d_Mo_isLeft_125 rfl (lv_at hl 1 rfl) ?_
          refine lv_icmp_ne (tgt := 145) hx hb d_Mo_isLeft_126 (by decide) (fun c31 => ?_) (fun c31 => ?_)
          · replace hg := tq_if_t c31 hg
            obtain ⟨v32, ev32, hg⟩ := tq_lj_s hg
            refine lv_iinc (v := v32) (lv' := [(8, .int v32), (0, .ref (ad 5)), (1, .int x1), (2, .int x2), (4, .int x4), (5, .int x5), (6, .int x6), (7, .int x7)]) hx hb d_Mo_isLeft_145 hl (k := 7) rfl (by rw [ev32]; rfl) (by decide) rfl (fun ls hl => ?_)
            refine lv_goto (tgt := 50) hx hb d_Mo_isLeft_148 (by decide) ?_
            exact ih.2.2.2.1 hP hD hS (lv_sub hl [1, 2, 3, 4, 5, 6, 7, 0] rfl) (tq_gi hg hn)
          · replace hg := tq_if_n c31 hg
            refine lv_aload_n hx hb d_Mo_isLeft_129 rfl (lv_at hl 0 rfl) ?_
            refine lv_iload hx hb d_Mo_isLeft_130 (lv_at hl 5 rfl) ?_
            refine lv_iload_n hx hb d_Mo_isLeft_132 rfl (lv_at hl 2 rfl) ?_
            refine lv_aload_n hx hb d_Mo_isLeft_133 rfl (lv_at hl 0 rfl) ?_
            refine va_get (D := (dC, dI)) (ci := 5) (v := .ref (ad 40)) (C := "TableauNodesModel") (T := F_Mo) (N := 25) hx hb hts in_Mo hown hK hP 5 rfl rfl 14 (by decide) (hts _ tw_613) (fun _ h9 => h9) rfl d_Mo_isLeft_134 ?_
            refine lv_iload hx hb d_Mo_isLeft_137 (lv_at hl 7 rfl) ?_
            obtain ⟨g33, hg⟩ := tq_gd_s hg
            refine va_iald hx hb hK hP 40 0 rfl rfl g33 d_Mo_isLeft_139 ?_
            obtain ⟨r35, σ36, f34, hg⟩ := tq_ob_s hg
            refine tq_aI (va_runV (As := [.int x6, .int x2, .int (ia σ 27 x8)]) (rest := []) ⟨hx, hb, hml, hown, hts⟩ (c_Mo_sees l dC dI cI cL cZ ad tt H.size σ x6 x2 (ia σ 27 x8)  r35 σ36 f34) (cwV 3 hts (tq_gV tw_805 tw_807 ts_45 tw_6 tw_808) rfl rfl rfl (by decide +kernel) ⟨Nat.le_of_ble_eq_true rfl, Nat.le_of_ble_eq_true rfl⟩) ⟨tq_bl, va_recv hK hP (ci := 5) (q0 := 5) rfl rfl, (tq_pr hP hK hD hS hA hZ hN)⟩ rfl rfl hl.1 rfl (lv_room (Nat.le_of_ble_eq_true rfl)) d_Mo_isLeft_140 ⟨Nat.zero_le _, Nat.zero_le _⟩) hD hS hA (fun H locs hP hD hS => ?_)
            refine lv_istore (lv' := [(7, .int r35), (0, .ref (ad 5)), (1, .int x1), (2, .int x2), (4, .int x4), (5, .int x5), (6, .int x6), (8, .int x8)]) hx hb d_Mo_isLeft_143 hl (by decide) rfl (fun ls hl => ?_)
            obtain ⟨v37, ev37, hg⟩ := tq_lj_s hg
            refine lv_iinc (v := v37) (lv' := [(8, .int v37), (7, .int r35), (0, .ref (ad 5)), (1, .int x1), (2, .int x2), (4, .int x4), (5, .int x5), (6, .int x6)]) hx hb d_Mo_isLeft_145 hl (k := 7) rfl (by rw [ev37]; rfl) (by decide) rfl (fun ls hl => ?_)
            refine lv_goto (tgt := 50) hx hb d_Mo_isLeft_148 (by decide) ?_
            exact ih.2.2.2.1 hP hD hS (lv_sub hl [2, 3, 4, 5, 6, 7, 1, 0] rfl) (tq_gi hg hn)
      · intro x1 x2 x4 x5 x6 x7 σ H locs ls hP hD hS hl h9
        obtain ⟨q9, hg, hn⟩ := tq_go_s h9 (show ¬ (151 : Nat) = tq_rt by decide)
        replace hg : bk_Mo_isLeft_151 [x1, x2, x4, x5, x6, x7] [] σ = some q9 := hg
        unfold bk_Mo_isLeft_151 at hg
        refine lv_aload_n hx hb d_Mo_isLeft_151 rfl (lv_at hl 0 rfl) ?_
        refine va_get (D := (dC, dI)) (ci := 5) (v := .ref (ad 46)) (C := "TableauNodesModel") (T := F_Mo) (N := 25) hx hb hts in_Mo hown hK hP 5 rfl rfl 23 (by decide) (hts _ tw_622) (fun _ h9 => h9) rfl d_Mo_isLeft_152 ?_
        refine lv_iload_n hx hb d_Mo_isLeft_155 rfl (lv_at hl 1 rfl) ?_
        refine lv_iconst (v := 1) hx hb d_Mo_isLeft_156 (by decide) ?_
        refine lv_iadd hx hb d_Mo_isLeft_157 ?_
        refine lv_iload hx hb d_Mo_isLeft_158 (lv_at hl 3 rfl) ?_
        refine lv_iload hx hb d_Mo_isLeft_160 (lv_at hl 5 rfl) ?_
        obtain ⟨r39, σ40, f38, hg⟩ := tq_ob_s hg
        refine tq_aI (va_runS (As := [.int (x1 + 1), .int x4, .int x6]) (rest := [.ref (ad 46)]) ⟨hx, hb, hml, hown, hts⟩ (c_Mo_at l dC dI cI cL cZ ad tt H.size σ (x1 + 1) x4 x6  r39 σ40 f38) (va_cwS 3 hts (tq_gS tw_798 tw_799 tw_6 tw_800) rfl rfl rfl (by decide +kernel) ⟨Nat.le_of_ble_eq_true rfl, Nat.le_of_ble_eq_true rfl⟩) ⟨tq_bl, (tq_pr hP hK hD hS hA hZ hN)⟩ rfl rfl hl.1 rfl (lv_room (Nat.le_of_ble_eq_true rfl)) d_Mo_isLeft_162 ⟨Nat.zero_le _, Nat.zero_le _⟩) hD hS hA (fun H locs hP hD hS => ?_)
        refine lv_iload hx hb d_Mo_isLeft_165 (lv_at hl 6 rfl) ?_
        obtain ⟨g41, hg⟩ := tq_gd_s hg
        refine va_zast hx hb hK hP hD hS 46 2 rfl rfl g41 d_Mo_isLeft_167 (fun H locs hP hD hS => ?_)
        obtain ⟨σ42, eσ42, hg⟩ := tq_lj_s hg
        replace hP : va_P (dC, dI) tq_cl (wo cI cL cZ ad σ42) H := by rw [eσ42, ← ws_i33]; exact hP
        replace hD : va_D A (wo cI cL cZ ad σ42) := by rw [eσ42, ← ws_i33]; exact hD
        refine lv_iload hx hb d_Mo_isLeft_168 (lv_at hl 4 rfl) ?_
        refine lv_if_ne (tgt := 178) hx hb d_Mo_isLeft_170 (by decide) (fun c43 => ?_) (fun c43 => ?_)
        · replace hg := tq_if_t c43 hg
          refine lv_iconst (v := 1) hx hb d_Mo_isLeft_178 (by decide) ?_
          refine lv_goto (tgt := 183) hx hb d_Mo_isLeft_179 (by decide) ?_
          refine lv_istore (lv' := [(5, .int 1), (0, .ref (ad 5)), (1, .int x1), (2, .int x2), (4, .int x4), (6, .int x6), (7, .int x7)]) hx hb d_Mo_isLeft_183 hl (by decide) rfl (fun ls hl => ?_)
          obtain ⟨v44, ev44, hg⟩ := tq_lj_s hg
          refine lv_iinc (v := v44) (lv' := [(6, .int v44), (5, .int 1), (0, .ref (ad 5)), (1, .int x1), (2, .int x2), (4, .int x4), (7, .int x7)]) hx hb d_Mo_isLeft_185 hl (k := 5) rfl (by rw [ev44]; rfl) (by decide) rfl (fun ls hl => ?_)
          refine lv_goto (tgt := 23) hx hb d_Mo_isLeft_188 (by decide) ?_
          exact ih.2.2.1 hP hD hS (lv_sub hl [2, 3, 4, 5, 1, 0] rfl) (tq_gi hg hn)
        · replace hg := tq_if_n c43 hg
          refine lv_iload hx hb d_Mo_isLeft_173 (lv_at hl 6 rfl) ?_
          refine lv_if_eq (tgt := 182) hx hb d_Mo_isLeft_175 (by decide) (fun c45 => ?_) (fun c45 => ?_)
          · replace hg := tq_if_t c45 hg
            refine lv_iconst (v := 0) hx hb d_Mo_isLeft_182 (by decide) ?_
            refine lv_istore (lv' := [(5, .int 0), (0, .ref (ad 5)), (1, .int x1), (2, .int x2), (4, .int x4), (6, .int x6), (7, .int x7)]) hx hb d_Mo_isLeft_183 hl (by decide) rfl (fun ls hl => ?_)
            obtain ⟨v46, ev46, hg⟩ := tq_lj_s hg
            refine lv_iinc (v := v46) (lv' := [(6, .int v46), (5, .int 0), (0, .ref (ad 5)), (1, .int x1), (2, .int x2), (4, .int x4), (7, .int x7)]) hx hb d_Mo_isLeft_185 hl (k := 5) rfl (by rw [ev46]; rfl) (by decide) rfl (fun ls hl => ?_)
            refine lv_goto (tgt := 23) hx hb d_Mo_isLeft_188 (by decide) ?_
            exact ih.2.2.1 hP hD hS (lv_sub hl [2, 3, 4, 5, 1, 0] rfl) (tq_gi hg hn)
          · replace hg := tq_if_f c45 hg
            refine lv_iconst (v := 1) hx hb d_Mo_isLeft_178 (by decide) ?_
            refine lv_goto (tgt := 183) hx hb d_Mo_isLeft_179 (by decide) ?_
            refine lv_istore (lv' := [(5, .int 1), (0, .ref (ad 5)), (1, .int x1), (2, .int x2), (4, .int x4), (6, .int x6), (7, .int x7)]) hx hb d_Mo_isLeft_183 hl (by decide) rfl (fun ls hl => ?_)
            obtain ⟨v47, ev47, hg⟩ := tq_lj_s hg
            refine lv_iinc (v := v47) (lv' := [(6, .int v47), (5, .int 1), (0, .ref (ad 5)), (1, .int x1), (2, .int x2), (4, .int x4), (7, .int x7)]) hx hb d_Mo_isLeft_185 hl (k := 5) rfl (by rw [ev47]; rfl) (by decide) rfl (fun ls hl => ?_)
            refine lv_goto (tgt := 23) hx hb d_Mo_isLeft_188 (by decide) ?_
            exact ih.2.2.1 hP hD hS (lv_sub hl [2, 3, 4, 5, 1, 0] rfl) (tq_gi hg hn)
  exact (key n0).1 hP hD hS hl h0
noncomputable def bk_Mo_search_0 : List Int32 → List Int64 → tq_S → Option tq_C
  | [x1, x2], [], σ => tq_ob (tq_fV st_Mo_work (0, [], [], σ)) (fun _ σ3 => some (6, [x1, x2, 0], [], σ3))
  | _, _, _ => none
noncomputable def bk_Mo_search_6 : List Int32 → List Int64 → tq_S → Option tq_C
  | [x1, x2, x3], [], σ => if 5 ≤ x3 then tq_gd 0 5 (tq_lj (iput σ 34 (0 : Int32).toNatClampNeg (-1)) (fun σ6 => some (96, [0], [], σ6))) else some (14, [x1, x2, x3, 0], [], σ)
  | _, _, _ => none
noncomputable def bk_Mo_search_14 : List Int32 → List Int64 → tq_S → Option tq_C
  | [x1, x2, x3, x4], [], σ => tq_ob (tq_fI st_Mo_size (0, [], [], σ)) (fun r8 σ9 => if r8 ≤ x4 then tq_lj (x3 + 1) (fun v11 => some (6, [x1, x2, v11], [], σ9)) else tq_ob (tq_fI st_Mo_at (0, [0, x3, x4], [], σ9)) (fun r13 σ14 => tq_gd x4 1024 (if ¬ (ia σ14 31 x4) = 0 then tq_gd r13 30720 (tq_lj (iput σ14 33 r13.toNatClampNeg (jz 0)) (fun σ18 => tq_lj (x4 + 1) (fun v19 => some (14, [x1, x2, x3, v19], [], σ18)))) else tq_ob (tq_fI st_Mo_isSaid (0, [x3, x4], [], σ14)) (fun r21 σ22 => if r21 = 0 then tq_gd r13 30720 (tq_lj (iput σ22 33 r13.toNatClampNeg (jz 0)) (fun σ25 => tq_lj (x4 + 1) (fun v26 => some (14, [x1, x2, x3, v26], [], σ25)))) else if ¬ x3 = x1 then tq_gd r13 30720 (tq_lj (iput σ22 33 r13.toNatClampNeg (jz 1)) (fun σ29 => tq_lj (x4 + 1) (fun v30 => some (14, [x1, x2, x3, v30], [], σ29)))) else tq_ob (tq_fI st_Mo_isHeld (0, [x4, x2], [], σ22)) (fun r32 σ33 => if ¬ r32 = 0 then tq_gd r13 30720 (tq_lj (iput σ33 33 r13.toNatClampNeg (jz 0)) (fun σ36 => tq_lj (x4 + 1) (fun v37 => some (14, [x1, x2, x3, v37], [], σ36)))) else tq_gd r13 30720 (tq_lj (iput σ33 33 r13.toNatClampNeg (jz 1)) (fun σ39 => tq_lj (x4 + 1) (fun v40 => some (14, [x1, x2, x3, v40], [], σ39)))))))))
  | _, _, _ => none
noncomputable def bk_Mo_search_96 : List Int32 → List Int64 → tq_S → Option tq_C
  | [x3], [], σ => if x3 < 0 then some (196, [x3], [], σ) else if 5 ≤ x3 then some (196, [x3], [], σ) else tq_gd x3 5 (tq_lj ((ia σ 34 x3) + 1) (fun v44 => some (115, [x3, v44], [], σ)))
  | _, _, _ => none
noncomputable def bk_Mo_search_115 : List Int32 → List Int64 → tq_S → Option tq_C
  | [x3, x4], [], σ => tq_ob (tq_fI st_Mo_size (0, [], [], σ)) (fun r46 σ47 => if r46 ≤ x4 then some (155, [x3, x4], [], σ47) else tq_ob (tq_fI st_Mo_at (0, [x3, x3, x4], [], σ47)) (fun r50 σ51 => tq_gd r50 30720 (if (ia σ51 33 r50) = 0 then tq_lj (x4 + 1) (fun v54 => some (115, [x3, v54], [], σ51)) else tq_ob (tq_fI st_Mo_isLeft (0, [x3, x4], [], σ51)) (fun r56 σ57 => if ¬ r56 = 0 then some (155, [x3, x4], [], σ57) else tq_lj (x4 + 1) (fun v59 => some (115, [x3, v59], [], σ57))))))
  | _, _, _ => none
noncomputable def bk_Mo_search_155 : List Int32 → List Int64 → tq_S → Option tq_C
  | [x3, x4], [], σ => tq_gd x3 5 (tq_lj (iput σ 34 x3.toNatClampNeg x4) (fun σ61 => tq_ob (tq_fI st_Mo_size (0, [], [], σ61)) (fun r63 σ64 => if ¬ x4 = r63 then tq_lj (x3 + 1) (fun v66 => if 5 ≤ v66 then some (96, [v66], [], σ64) else tq_gd v66 5 (tq_lj (iput σ64 34 v66.toNatClampNeg (-1)) (fun σ69 => some (96, [v66], [], σ69)))) else tq_lj (x3 + (-1)) (fun v70 => some (96, [v70], [], σ64)))))
  | _, _, _ => none
noncomputable def bk_Mo_search_196 : List Int32 → List Int64 → tq_S → Option tq_C
  | [x3], [], σ => if ¬ x3 = 5 then some (tq_rt, [0], [], σ) else some (tq_rt, [1], [], σ)
  | _, _, _ => none
noncomputable def st_Mo_search (c : tq_C) : Option tq_C := if c.1 = 0 then bk_Mo_search_0 c.2.1 c.2.2.1 c.2.2.2 else if c.1 = 6 then bk_Mo_search_6 c.2.1 c.2.2.1 c.2.2.2 else if c.1 = 14 then bk_Mo_search_14 c.2.1 c.2.2.1 c.2.2.2 else if c.1 = 96 then bk_Mo_search_96 c.2.1 c.2.2.1 c.2.2.2 else if c.1 = 115 then bk_Mo_search_115 c.2.1 c.2.2.1 c.2.2.2 else if c.1 = 155 then bk_Mo_search_155 c.2.1 c.2.2.1 c.2.2.2 else if c.1 = 196 then bk_Mo_search_196 c.2.1 c.2.2.1 c.2.2.2 else none
set_option maxHeartbeats 40000000 in
set_option maxRecDepth 100000 in
theorem c_Mo_search (l : Launch) (dC : Nat → ClassId) (dI : Nat → Nat → Nat) (cI cL cZ : ClassId) (ad : Nat → Nat) (tt : Nat) (sz : Nat) (σ : tq_S) (a1 : Int32) (a2 : Int32) (r : Int32) (σ' : tq_S) (hf : tq_fI st_Mo_search (0, [a1, a2], [], σ) = some (r, σ')) : Met l y_Mo_search w_Mo_search ({ frames := 4, cells := 0, slots := 0, locals := 92 } : Room) (va_Pc [.ref (ad 5), .int a1, .int a2] (tq_B dC dI cI cL cZ tt (wo cI cL cZ ad σ) sz)) (va_Qi (fun (r' : Int32) (u : tq_S) => r' = r ∧ u = σ') (tq_E dC dI cI cL cZ (wo cI cL cZ ad) (va_A (wo cI cL cZ ad σ) sz)) (va_A (wo cI cL cZ ad σ) sz)) 0 0 (va_A (wo cI cL cZ ad σ) sz) := by
  obtain ⟨n0, h0⟩ := tq_fI_to hf
  refine Met.ofW (cc := prog_7_method_33_code) (maxL := 5) (ret := (some .boolean)) (by decide) rfl ?_
  intro p e s m args below meth c s₁ B hml hv
  obtain ⟨rfl, hsz, hP, hK, hD0, hZ, hN⟩ := hv
  have hx := B.exec
  have hb := B.bytes
  have hr := B.returns
  have hts : ∀ w ∈ tq_T, w.before _ s = true := fun w h => atoms_spec (ws := w_Mo_search) B.pre w (List.mem_cons_of_mem _ h)
  have hown : s.vm.findClass "TableauNodesModel" = some m.cls := findClass_of_methodNamed B.named
  have hlocks := B.notSynchronized
  subst hsz
  have hD := hD0.self (sz := s.heap.size)
  have hS : va_S (va_A (wo cI cL cZ ad σ) s.heap.size) s.heap s.heap [] := va_S.rf
  have hA : ∀ q : Nat, s.heap.size ≤ q → va_A (wo cI cL cZ ad σ) s.heap.size q := fun q h => Or.inr h
  generalize va_A (wo cI cL cZ ad σ) s.heap.size = A at hD hS hA hZ ⊢
  have hl := lv_entry ([.ref (ad 5), .int a1, .int a2]) (n := 5) (Nat.le_of_ble_eq_true rfl)
  rw [lg_entry_eq]
  generalize (lg_sl ([.ref (ad 5), .int a1, .int a2]) ++ List.replicate (5 - (lg_sl ([.ref (ad 5), .int a1, .int a2])).length) Slot.unset).toArray = ls at hl ⊢
  have hl : lv_has ls 5 [(0, .ref (ad 5)), (1, .int a1), (2, .int a2)] := hl
  have key : ∀ n : Nat, (∀ {x1 x2 : Int32} {σ : tq_S} {H : Heap} {locs : List Loc} {ls : Array Slot}, va_P (dC, dI) tq_cl (wo cI cL cZ ad σ) H → va_D A (wo cI cL cZ ad σ) → va_S A s.heap H locs → lv_has ls 5 [(0, .ref (ad 5)), (1, .int x1), (2, .int x2)] → tq_go st_Mo_search n (0, [x1, x2], [], σ) = some (tq_rt, [r], [], σ') → W p l e (headSpec w_Mo_search ({ frames := 4, cells := 0, slots := 0, locals := 92 } : Room)).room s m ([.ref (ad 5), .int a1, .int a2] : List Value).toArray below meth c H locs 0 0 (MQ below (va_Qi (fun (r' : Int32) (u : tq_S) => r' = r ∧ u = σ') (tq_E dC dI cI cL cZ (wo cI cL cZ ad) A) A) ([.ref (ad 5), .int a1, .int a2] : List Value).toArray s 0 0 A) (F0 m 0 ls [])) ∧ (∀ {x1 x2 x3 : Int32} {σ : tq_S} {H : Heap} {locs : List Loc} {ls : Array Slot}, va_P (dC, dI) tq_cl (wo cI cL cZ ad σ) H → va_D A (wo cI cL cZ ad σ) → va_S A s.heap H locs → lv_has ls 5 [(0, .ref (ad 5)), (1, .int x1), (2, .int x2), (3, .int x3)] → tq_go st_Mo_search n (6, [x1, x2, x3], [], σ) = some (tq_rt, [r], [], σ') → W p l e (headSpec w_Mo_search ({ frames := 4, cells := 0, slots := 0, locals := 92 } : Room)).room s m ([.ref (ad 5), .int a1, .int a2] : List Value).toArray below meth c H locs 0 0 (MQ below (va_Qi (fun (r' : Int32) (u : tq_S) => r' = r ∧ u = σ') (tq_E dC dI cI cL cZ (wo cI cL cZ ad) A) A) ([.ref (ad 5), .int a1, .int a2] : List Value).toArray s 0 0 A) (F0 m 6 ls [])) ∧ (∀ {x1 x2 x3 x4 : Int32} {σ : tq_S} {H : Heap} {locs : List Loc} {ls : Array Slot}, va_P (dC, dI) tq_cl (wo cI cL cZ ad σ) H → va_D A (wo cI cL cZ ad σ) → va_S A s.heap H locs → lv_has ls 5 [(0, .ref (ad 5)), (1, .int x1), (2, .int x2), (3, .int x3), (4, .int x4)] → tq_go st_Mo_search n (14, [x1, x2, x3, x4], [], σ) = some (tq_rt, [r], [], σ') → W p l e (headSpec w_Mo_search ({ frames := 4, cells := 0, slots := 0, locals := 92 } : Room)).room s m ([.ref (ad 5), .int a1, .int a2] : List Value).toArray below meth c H locs 0 0 (MQ below (va_Qi (fun (r' : Int32) (u : tq_S) => r' = r ∧ u = σ') (tq_E dC dI cI cL cZ (wo cI cL cZ ad) A) A) ([.ref (ad 5), .int a1, .int a2] : List Value).toArray s 0 0 A) (F0 m 14 ls [])) ∧ (∀ {x3 : Int32} {σ : tq_S} {H : Heap} {locs : List Loc} {ls : Array Slot}, va_P (dC, dI) tq_cl (wo cI cL cZ ad σ) H → va_D A (wo cI cL cZ ad σ) → va_S A s.heap H locs → lv_has ls 5 [(0, .ref (ad 5)), (3, .int x3)] → tq_go st_Mo_search n (96, [x3], [], σ) = some (tq_rt, [r], [], σ') → W p l e (headSpec w_Mo_search ({ frames := 4, cells := 0, slots := 0, locals := 92 } : Room)).room s m ([.ref (ad 5), .int a1, .int a2] : List Value).toArray below meth c H locs 0 0 (MQ below (va_Qi (fun (r' : Int32) (u : tq_S) => r' = r ∧ u = σ') (tq_E dC dI cI cL cZ (wo cI cL cZ ad) A) A) ([.ref (ad 5), .int a1, .int a2] : List Value).toArray s 0 0 A) (F0 m 96 ls [])) ∧ (∀ {x3 x4 : Int32} {σ : tq_S} {H : Heap} {locs : List Loc} {ls : Array Slot}, va_P (dC, dI) tq_cl (wo cI cL cZ ad σ) H → va_D A (wo cI cL cZ ad σ) → va_S A s.heap H locs → lv_has ls 5 [(0, .ref (ad 5)), (3, .int x3), (4, .int x4)] → tq_go st_Mo_search n (115, [x3, x4], [], σ) = some (tq_rt, [r], [], σ') → W p l e (headSpec w_Mo_search ({ frames := 4, cells := 0, slots := 0, locals := 92 } : Room)).room s m ([.ref (ad 5), .int a1, .int a2] : List Value).toArray below meth c H locs 0 0 (MQ below (va_Qi (fun (r' : Int32) (u : tq_S) => r' = r ∧ u = σ') (tq_E dC dI cI cL cZ (wo cI cL cZ ad) A) A) ([.ref (ad 5), .int a1, .int a2] : List Value).toArray s 0 0 A) (F0 m 115 ls [])) ∧ (∀ {x3 x4 : Int32} {σ : tq_S} {H : Heap} {locs : List Loc} {ls : Array Slot}, va_P (dC, dI) tq_cl (wo cI cL cZ ad σ) H → va_D A (wo cI cL cZ ad σ) → va_S A s.heap H locs → lv_has ls 5 [(0, .ref (ad 5)), (3, .int x3), (4, .int x4)] → tq_go st_Mo_search n (155, [x3, x4], [], σ) = some (tq_rt, [r], [], σ') → W p l e (headSpec w_Mo_search ({ frames := 4, cells := 0, slots := 0, locals := 92 } : Room)).room s m ([.ref (ad 5), .int a1, .int a2] : List Value).toArray below meth c H locs 0 0 (MQ below (va_Qi (fun (r' : Int32) (u : tq_S) => r' = r ∧ u = σ') (tq_E dC dI cI cL cZ (wo cI cL cZ ad) A) A) ([.ref (ad 5), .int a1, .int a2] : List Value).toArray s 0 0 A) (F0 m 155 ls [])) ∧ (∀ {x3 : Int32} {σ : tq_S} {H : Heap} {locs : List Loc} {ls : Array Slot}, va_P (dC, dI) tq_cl (wo cI cL cZ ad σ) H → va_D A (wo cI cL cZ ad σ) → va_S A s.heap H locs → lv_has ls 5 [(3, .int x3)] → tq_go st_Mo_search n (196, [x3], [], σ) = some (tq_rt, [r], [], σ') → W p l e (headSpec w_Mo_search ({ frames := 4, cells := 0, slots := 0, locals := 92 } : Room)).room s m ([.ref (ad 5), .int a1, .int a2] : List Value).toArray below meth c H locs 0 0 (MQ below (va_Qi (fun (r' : Int32) (u : tq_S) => r' = r ∧ u = σ') (tq_E dC dI cI cL cZ (wo cI cL cZ ad) A) A) ([.ref (ad 5), .int a1, .int a2] : List Value).toArray s 0 0 A) (F0 m 196 ls [])) := by
    intro n
    induction n with
    | zero => exact ⟨(fun _ _ _ _ h => by cases h), (fun _ _ _ _ h => by cases h), (fun _ _ _ _ h => by cases h), (fun _ _ _ _ h => by cases h), (fun _ _ _ _ h => by cases h), (fun _ _ _ _ h => by cases h), (fun _ _ _ _ h => by cases h)⟩
    | succ n ih =>
      refine ⟨?_, ?_, ?_, ?_, ?_, ?_, ?_⟩
      · intro x1 x2 σ H locs ls hP hD hS hl h9
        obtain ⟨q9, hg, hn⟩ := tq_go_s h9 (show ¬ (0 : Nat) = tq_rt by decide)
        replace hg : bk_Mo_search_0 [x1, x2] [] σ = some q9 := hg
        unfold bk_Mo_search_0 at hg
        refine lv_aload_n hx hb d_Mo_search_0 rfl (lv_at hl 0 rfl) ?_
        obtain ⟨⟨⟩, σ3, f1, hg⟩ := tq_ob_s hg
        refine tq_aV (va_runV (As := []) (rest := []) ⟨hx, hb, hml, hown, hts⟩ (c_Mo_work l dC dI cI cL cZ ad tt H.size σ    σ3 f1) (cwV 0 hts (tq_gV tw_727 tw_729 ts_35 tw_6 tw_730) rfl rfl rfl (by decide +kernel) ⟨Nat.le_of_ble_eq_true rfl, Nat.le_of_ble_eq_true rfl⟩) ⟨tq_bl, va_recv hK hP (ci := 5) (q0 := 5) rfl rfl, (tq_pr hP hK hD hS hA hZ hN)⟩ rfl rfl hl.1 rfl (lv_room (Nat.le_of_ble_eq_true rfl)) d_Mo_search_1 ⟨Nat.zero_le _, Nat.zero_le _⟩) hD hS hA (fun H locs hP hD hS => ?_)
        refine lv_iconst (v := 0) hx hb d_Mo_search_4 (by decide) ?_
        refine lv_istore_n (lv' := [(3, .int 0), (0, .ref (ad 5)), (1, .int x1), (2, .int x2)]) hx hb d_Mo_search_5 rfl hl (by decide) rfl (fun ls hl => ?_)
        exact ih.2.1 hP hD hS (lv_sub hl [1, 2, 3, 0] rfl) (tq_gi hg hn)
      · intro x1 x2 x3 σ H locs ls hP hD hS hl h9
        obtain ⟨q9, hg, hn⟩ := tq_go_s h9 (show ¬ (6 : Nat) = tq_rt by decide)
        replace hg : bk_Mo_search_6 [x1, x2, x3] [] σ = some q9 := hg
        unfold bk_Mo_search_6 at hg
        refine lv_iload_n hx hb d_Mo_search_6 rfl (lv_at hl 3 rfl) ?_
        refine lv_iconst (v := 5) hx hb d_Mo_search_7 (by decide) ?_
        refine lv_icmp_ge (tgt := 87) hx hb d_Mo_search_8 (by decide) (fun c4 => ?_) (fun c4 => ?_)
        · replace hg := tq_if_t c4 hg
          refine lv_iconst (v := 0) hx hb d_Mo_search_87 (by decide) ?_
          refine lv_istore_n (lv' := [(3, .int 0), (0, .ref (ad 5)), (1, .int x1), (2, .int x2)]) hx hb d_Mo_search_88 rfl hl (by decide) rfl (fun ls hl => ?_)
          refine lv_aload_n hx hb d_Mo_search_89 rfl (lv_at hl 1 rfl) ?_
          refine va_get (D := (dC, dI)) (ci := 5) (v := .ref (ad 47)) (C := "TableauNodesModel") (T := F_Mo) (N := 25) hx hb hts in_Mo hown hK hP 5 rfl rfl 24 (by decide) (hts _ tw_623) (fun _ h9 => h9) rfl d_Mo_search_90 ?_
          refine lv_iconst (v := 0) hx hb d_Mo_search_93 (by decide) ?_
          refine lv_iconst (v := (-1)) hx hb d_Mo_search_94 (by decide) ?_
          obtain ⟨g5, hg⟩ := tq_gd_s hg
          refine va_iast hx hb hK hP hD hS 47 0 rfl rfl g5 d_Mo_search_95 (fun H locs hP hD hS => ?_)
          obtain ⟨σ6, eσ6, hg⟩ := tq_lj_s hg
          replace hP : va_P (dC, dI) tq_cl (wo cI cL cZ ad σ6) H := by rw [eσ6, ← ws_i34]; exact hP
          replace hD : va_D A (wo cI cL cZ ad σ6) := by rw [eσ6, ← ws_i34]; exact hD
          exact ih.2.2.2.1 hP hD hS (lv_sub hl [1, 0] rfl) (tq_gi hg hn)
        · replace hg := tq_if_f c4 hg
          refine lv_iconst (v := 0) hx hb d_Mo_search_11 (by decide) ?_
          refine lv_istore (lv' := [(4, .int 0), (0, .ref (ad 5)), (1, .int x1), (2, .int x2), (3, .int x3)]) hx hb d_Mo_search_12 hl (by decide) rfl (fun ls hl => ?_)
          exact ih.2.2.1 hP hD hS (lv_sub hl [1, 2, 3, 4, 0] rfl) (tq_gi hg hn)
      · intro x1 x2 x3 x4 σ H locs ls hP hD hS hl h9
        obtain ⟨q9, hg, hn⟩ := tq_go_s h9 (show ¬ (14 : Nat) = tq_rt by decide)
        replace hg : bk_Mo_search_14 [x1, x2, x3, x4] [] σ = some q9 := hg
        unfold bk_Mo_search_14 at hg
        refine lv_iload hx hb d_Mo_search_14 (lv_at hl 4 rfl) ?_
        refine lv_aload_n hx hb d_Mo_search_16 rfl (lv_at hl 0 rfl) ?_
        obtain ⟨r8, σ9, f7, hg⟩ := tq_ob_s hg
        refine tq_aI (va_runV (As := []) (rest := [.int x4]) ⟨hx, hb, hml, hown, hts⟩ (c_Mo_size l dC dI cI cL cZ ad tt H.size σ   r8 σ9 f7) (cwV 0 hts (tq_gV tw_731 tw_733 ts_36 tw_6 tw_734) rfl rfl rfl (by decide +kernel) ⟨Nat.le_of_ble_eq_true rfl, Nat.le_of_ble_eq_true rfl⟩) ⟨tq_bl, va_recv hK hP (ci := 5) (q0 := 5) rfl rfl, (tq_pr hP hK hD hS hA hZ hN)⟩ rfl rfl hl.1 rfl (lv_room (Nat.le_of_ble_eq_true rfl)) d_Mo_search_17 ⟨Nat.zero_le _, Nat.zero_le _⟩) hD hS hA (fun H locs hP hD hS => ?_)
        refine lv_icmp_ge (tgt := 81) hx hb d_Mo_search_20 (by decide) (fun c10 => ?_) (fun c10 => ?_)
        · replace hg := tq_if_t c10 hg
          obtain ⟨v11, ev11, hg⟩ := tq_lj_s hg
          refine lv_iinc (v := v11) (lv' := [(3, .int v11), (0, .ref (ad 5)), (1, .int x1), (2, .int x2), (4, .int x4)]) hx hb d_Mo_search_81 hl (k := 3) rfl (by rw [ev11]; rfl) (by decide) rfl (fun ls hl => ?_)
          refine lv_goto (tgt := 6) hx hb d_Mo_search_84 (by decide) ?_
          exact ih.2.1 hP hD hS (lv_sub hl [1, 2, 3, 0] rfl) (tq_gi hg hn)
        · replace hg := tq_if_f c10 hg
          refine lv_aload_n hx hb d_Mo_search_23 rfl (lv_at hl 0 rfl) ?_
          refine va_get (D := (dC, dI)) (ci := 5) (v := .ref (ad 46)) (C := "TableauNodesModel") (T := F_Mo) (N := 25) hx hb hts in_Mo hown hK hP 5 rfl rfl 23 (by decide) (hts _ tw_622) (fun _ h9 => h9) rfl d_Mo_search_24 ?_
          refine lv_iconst (v := 0) hx hb d_Mo_search_27 (by decide) ?_
          refine lv_iload_n hx hb d_Mo_search_28 rfl (lv_at hl 3 rfl) ?_
          refine lv_iload hx hb d_Mo_search_29 (lv_at hl 4 rfl) ?_
          obtain ⟨r13, σ14, f12, hg⟩ := tq_ob_s hg
          refine tq_aI (va_runS (As := [.int 0, .int x3, .int x4]) (rest := [.ref (ad 46)]) ⟨hx, hb, hml, hown, hts⟩ (c_Mo_at l dC dI cI cL cZ ad tt H.size σ9 0 x3 x4  r13 σ14 f12) (va_cwS 3 hts (tq_gS tw_798 tw_799 tw_6 tw_800) rfl rfl rfl (by decide +kernel) ⟨Nat.le_of_ble_eq_true rfl, Nat.le_of_ble_eq_true rfl⟩) ⟨tq_bl, (tq_pr hP hK hD hS hA hZ hN)⟩ rfl rfl hl.1 rfl (lv_room (Nat.le_of_ble_eq_true rfl)) d_Mo_search_31 ⟨Nat.zero_le _, Nat.zero_le _⟩) hD hS hA (fun H locs hP hD hS => ?_)
          refine lv_aload_n hx hb d_Mo_search_34 rfl (lv_at hl 0 rfl) ?_
          refine va_get (D := (dC, dI)) (ci := 5) (v := .ref (ad 44)) (C := "TableauNodesModel") (T := F_Mo) (N := 25) hx hb hts in_Mo hown hK hP 5 rfl rfl 20 (by decide) (hts _ tw_619) (fun _ h9 => h9) rfl d_Mo_search_35 ?_
          refine lv_iload hx hb d_Mo_search_38 (lv_at hl 4 rfl) ?_
          obtain ⟨g15, hg⟩ := tq_gd_s hg
          refine va_iald hx hb hK hP 44 0 rfl rfl g15 d_Mo_search_40 ?_
          refine lv_if_ne (tgt := 73) hx hb d_Mo_search_41 (by decide) (fun c16 => ?_) (fun c16 => ?_)
          · replace hg := tq_if_t c16 hg
            refine lv_iconst (v := 0) hx hb d_Mo_search_73 (by decide) ?_
            obtain ⟨g17, hg⟩ := tq_gd_s hg
            refine va_zast hx hb hK hP hD hS 46 2 rfl rfl g17 d_Mo_search_74 (fun H locs hP hD hS => ?_)
            obtain ⟨σ18, eσ18, hg⟩ := tq_lj_s hg
            replace hP : va_P (dC, dI) tq_cl (wo cI cL cZ ad σ18) H := by rw [eσ18, ← ws_i33]; exact hP
            replace hD : va_D A (wo cI cL cZ ad σ18) := by rw [eσ18, ← ws_i33]; exact hD
            obtain ⟨v19, ev19, hg⟩ := tq_lj_s hg
            refine lv_iinc (v := v19) (lv' := [(4, .int v19), (0, .ref (ad 5)), (1, .int x1), (2, .int x2), (3, .int x3)]) hx hb d_Mo_search_75 hl (k := 4) rfl (by rw [ev19]; rfl) (by decide) rfl (fun ls hl => ?_)
            refine lv_goto (tgt := 14) hx hb d_Mo_search_78 (by decide) ?_
            exact ih.2.2.1 hP hD hS (lv_sub hl [1, 2, 3, 4, 0] rfl) (tq_gi hg hn)
          · replace hg := tq_if_n c16 hg
            refine lv_aload_n hx hb d_Mo_search_44 rfl (lv_at hl 0 rfl) ?_
            refine lv_iload_n hx hb d_Mo_search_45 rfl (lv_at hl 3 rfl) ?_
            refine lv_iload hx hb d_Mo_search_46 (lv_at hl 4 rfl) ?_
            obtain ⟨r21, σ22, f20, hg⟩ := tq_ob_s hg
            refine tq_aI (va_runV (As := [.int x3, .int x4]) (rest := [.int r13, .ref (ad 46)]) ⟨hx, hb, hml, hown, hts⟩ (c_Mo_isSaid l dC dI cI cL cZ ad tt H.size σ14 x3 x4  r21 σ22 f20) (cwV 2 hts (tq_gV tw_801 tw_803 ts_44 tw_6 tw_804) rfl rfl rfl (by decide +kernel) ⟨Nat.le_of_ble_eq_true rfl, Nat.le_of_ble_eq_true rfl⟩) ⟨tq_bl, va_recv hK hP (ci := 5) (q0 := 5) rfl rfl, (tq_pr hP hK hD hS hA hZ hN)⟩ rfl rfl hl.1 rfl (lv_room (Nat.le_of_ble_eq_true rfl)) d_Mo_search_48 ⟨Nat.zero_le _, Nat.zero_le _⟩) hD hS hA (fun H locs hP hD hS => ?_)
            refine lv_if_eq (tgt := 73) hx hb d_Mo_search_51 (by decide) (fun c23 => ?_) (fun c23 => ?_)
            · replace hg := tq_if_t c23 hg
              refine lv_iconst (v := 0) hx hb d_Mo_search_73 (by decide) ?_
              obtain ⟨g24, hg⟩ := tq_gd_s hg
              refine va_zast hx hb hK hP hD hS 46 2 rfl rfl g24 d_Mo_search_74 (fun H locs hP hD hS => ?_)
              obtain ⟨σ25, eσ25, hg⟩ := tq_lj_s hg
              replace hP : va_P (dC, dI) tq_cl (wo cI cL cZ ad σ25) H := by rw [eσ25, ← ws_i33]; exact hP
              replace hD : va_D A (wo cI cL cZ ad σ25) := by rw [eσ25, ← ws_i33]; exact hD
              obtain ⟨v26, ev26, hg⟩ := tq_lj_s hg
              refine lv_iinc (v := v26) (lv' := [(4, .int v26), (0, .ref (ad 5)), (1, .int x1), (2, .int x2), (3, .int x3)]) hx hb d_Mo_search_75 hl (k := 4) rfl (by rw [ev26]; rfl) (by decide) rfl (fun ls hl => ?_)
              refine lv_goto (tgt := 14) hx hb d_Mo_search_78 (by decide) ?_
              exact ih.2.2.1 hP hD hS (lv_sub hl [1, 2, 3, 4, 0] rfl) (tq_gi hg hn)
            · replace hg := tq_if_f c23 hg
              refine lv_iload_n hx hb d_Mo_search_54 rfl (lv_at hl 3 rfl) ?_
              refine lv_iload_n hx hb d_Mo_search_55 rfl (lv_at hl 1 rfl) ?_
              refine lv_icmp_ne (tgt := 69) hx hb d_Mo_search_56 (by decide) (fun c27 => ?_) (fun c27 => ?_)
              · replace hg := tq_if_t c27 hg
                refine lv_iconst (v := 1) hx hb d_Mo_search_69 (by decide) ?_
                refine lv_goto (tgt := 74) hx hb d_Mo_search_70 (by decide) ?_
                obtain ⟨g28, hg⟩ := tq_gd_s hg
                refine va_zast hx hb hK hP hD hS 46 2 rfl rfl g28 d_Mo_search_74 (fun H locs hP hD hS => ?_)
                obtain ⟨σ29, eσ29, hg⟩ := tq_lj_s hg
                replace hP : va_P (dC, dI) tq_cl (wo cI cL cZ ad σ29) H := by rw [eσ29, ← ws_i33]; exact hP
                replace hD : va_D A (wo cI cL cZ ad σ29) := by rw [eσ29, ← ws_i33]; exact hD
                obtain ⟨v30, ev30, hg⟩ := tq_lj_s hg
                refine lv_iinc (v := v30) (lv' := [(4, .int v30), (0, .ref (ad 5)), (1, .int x1), (2, .int x2), (3, .int x3)]) hx hb d_Mo_search_75 hl (k := 4) rfl (by rw [ev30]; rfl) (by decide) rfl (fun ls hl => ?_)
                refine lv_goto (tgt := 14) hx hb d_Mo_search_78 (by decide) ?_
                exact ih.2.2.1 hP hD hS (lv_sub hl [1, 2, 3, 4, 0] rfl) (tq_gi hg hn)
              · replace hg := tq_if_n c27 hg
                refine lv_aload_n hx hb d_Mo_search_59 rfl (lv_at hl 0 rfl) ?_
                refine lv_iload hx hb d_Mo_search_60 (lv_at hl 4 rfl) ?_
                refine lv_iload_n hx hb d_Mo_search_62 rfl (lv_at hl 2 rfl) ?_
                obtain ⟨r32, σ33, f31, hg⟩ := tq_ob_s hg
                refine tq_aI (va_runV (As := [.int x4, .int x2]) (rest := [.int r13, .ref (ad 46)]) ⟨hx, hb, hml, hown, hts⟩ (c_Mo_isHeld l dC dI cI cL cZ ad tt H.size σ22 x4 x2  r32 σ33 f31) (cwV 2 hts (tq_gV tw_743 tw_745 ts_39 tw_6 tw_746) rfl rfl rfl (by decide +kernel) ⟨Nat.le_of_ble_eq_true rfl, Nat.le_of_ble_eq_true rfl⟩) ⟨tq_bl, va_recv hK hP (ci := 5) (q0 := 5) rfl rfl, (tq_pr hP hK hD hS hA hZ hN)⟩ rfl rfl hl.1 rfl (lv_room (Nat.le_of_ble_eq_true rfl)) d_Mo_search_63 ⟨Nat.zero_le _, Nat.zero_le _⟩) hD hS hA (fun H locs hP hD hS => ?_)
                refine lv_if_ne (tgt := 73) hx hb d_Mo_search_66 (by decide) (fun c34 => ?_) (fun c34 => ?_)
                · replace hg := tq_if_t c34 hg
                  refine lv_iconst (v := 0) hx hb d_Mo_search_73 (by decide) ?_
                  obtain ⟨g35, hg⟩ := tq_gd_s hg
                  refine va_zast hx hb hK hP hD hS 46 2 rfl rfl g35 d_Mo_search_74 (fun H locs hP hD hS => ?_)
                  obtain ⟨σ36, eσ36, hg⟩ := tq_lj_s hg
                  replace hP : va_P (dC, dI) tq_cl (wo cI cL cZ ad σ36) H := by rw [eσ36, ← ws_i33]; exact hP
                  replace hD : va_D A (wo cI cL cZ ad σ36) := by rw [eσ36, ← ws_i33]; exact hD
                  obtain ⟨v37, ev37, hg⟩ := tq_lj_s hg
                  refine lv_iinc (v := v37) (lv' := [(4, .int v37), (0, .ref (ad 5)), (1, .int x1), (2, .int x2), (3, .int x3)]) hx hb d_Mo_search_75 hl (k := 4) rfl (by rw [ev37]; rfl) (by decide) rfl (fun ls hl => ?_)
                  refine lv_goto (tgt := 14) hx hb d_Mo_search_78 (by decide) ?_
                  exact ih.2.2.1 hP hD hS (lv_sub hl [1, 2, 3, 4, 0] rfl) (tq_gi hg hn)
                · replace hg := tq_if_n c34 hg
                  refine lv_iconst (v := 1) hx hb d_Mo_search_69 (by decide) ?_
                  refine lv_goto (tgt := 74) hx hb d_Mo_search_70 (by decide) ?_
                  obtain ⟨g38, hg⟩ := tq_gd_s hg
                  refine va_zast hx hb hK hP hD hS 46 2 rfl rfl g38 d_Mo_search_74 (fun H locs hP hD hS => ?_)
                  obtain ⟨σ39, eσ39, hg⟩ := tq_lj_s hg
                  replace hP : va_P (dC, dI) tq_cl (wo cI cL cZ ad σ39) H := by rw [eσ39, ← ws_i33]; exact hP
                  replace hD : va_D A (wo cI cL cZ ad σ39) := by rw [eσ39, ← ws_i33]; exact hD
                  obtain ⟨v40, ev40, hg⟩ := tq_lj_s hg
                  refine lv_iinc (v := v40) (lv' := [(4, .int v40), (0, .ref (ad 5)), (1, .int x1), (2, .int x2), (3, .int x3)]) hx hb d_Mo_search_75 hl (k := 4) rfl (by rw [ev40]; rfl) (by decide) rfl (fun ls hl => ?_)
                  refine lv_goto (tgt := 14) hx hb d_Mo_search_78 (by decide) ?_
                  exact ih.2.2.1 hP hD hS (lv_sub hl [1, 2, 3, 4, 0] rfl) (tq_gi hg hn)
      · intro x3 σ H locs ls hP hD hS hl h9
        obtain ⟨q9, hg, hn⟩ := tq_go_s h9 (show ¬ (96 : Nat) = tq_rt by decide)
        replace hg : bk_Mo_search_96 [x3] [] σ = some q9 := hg
        unfold bk_Mo_search_96 at hg
        refine lv_iload_n hx hb d_Mo_search_96 rfl (lv_at hl 1 rfl) ?_
        refine lv_if_lt (tgt := 196) hx hb d_Mo_search_97 (by decide) (fun c41 => ?_) (fun c41 => ?_)
        · replace hg := tq_if_t c41 hg
          exact ih.2.2.2.2.2.2 hP hD hS (lv_sub hl [1] rfl) (tq_gi hg hn)
        · replace hg := tq_if_f c41 hg
          refine lv_iload_n hx hb d_Mo_search_100 rfl (lv_at hl 1 rfl) ?_
          refine lv_iconst (v := 5) hx hb d_Mo_search_101 (by decide) ?_
          refine lv_icmp_ge (tgt := 196) hx hb d_Mo_search_102 (by decide) (fun c42 => ?_) (fun c42 => ?_)
          · replace hg := tq_if_t c42 hg
            exact ih.2.2.2.2.2.2 hP hD hS (lv_sub hl [1] rfl) (tq_gi hg hn)
          · replace hg := tq_if_f c42 hg
            refine lv_aload_n hx hb d_Mo_search_105 rfl (lv_at hl 0 rfl) ?_
            refine va_get (D := (dC, dI)) (ci := 5) (v := .ref (ad 47)) (C := "TableauNodesModel") (T := F_Mo) (N := 25) hx hb hts in_Mo hown hK hP 5 rfl rfl 24 (by decide) (hts _ tw_623) (fun _ h9 => h9) rfl d_Mo_search_106 ?_
            refine lv_iload_n hx hb d_Mo_search_109 rfl (lv_at hl 1 rfl) ?_
            obtain ⟨g43, hg⟩ := tq_gd_s hg
            refine va_iald hx hb hK hP 47 0 rfl rfl g43 d_Mo_search_110 ?_
            refine lv_iconst (v := 1) hx hb d_Mo_search_111 (by decide) ?_
            refine lv_iadd hx hb d_Mo_search_112 ?_
            obtain ⟨v44, ev44, hg⟩ := tq_lj_s hg
            refine tq_nmi ev44 ?_
            refine lv_istore (lv' := [(4, .int v44), (0, .ref (ad 5)), (3, .int x3)]) hx hb d_Mo_search_113 hl (by decide) rfl (fun ls hl => ?_)
            exact ih.2.2.2.2.1 hP hD hS (lv_sub hl [1, 2, 0] rfl) (tq_gi hg hn)
      · intro x3 x4 σ H locs ls hP hD hS hl h9
        obtain ⟨q9, hg, hn⟩ := tq_go_s h9 (show ¬ (115 : Nat) = tq_rt by decide)
        replace hg : bk_Mo_search_115 [x3, x4] [] σ = some q9 := hg
        unfold bk_Mo_search_115 at hg
        refine lv_iload hx hb d_Mo_search_115 (lv_at hl 2 rfl) ?_
        refine lv_aload_n hx hb d_Mo_search_117 rfl (lv_at hl 0 rfl) ?_
        obtain ⟨r46, σ47, f45, hg⟩ := tq_ob_s hg
        refine tq_aI (va_runV (As := []) (rest := [.int x4]) ⟨hx, hb, hml, hown, hts⟩ (c_Mo_size l dC dI cI cL cZ ad tt H.size σ   r46 σ47 f45) (cwV 0 hts (tq_gV tw_731 tw_733 ts_36 tw_6 tw_734) rfl rfl rfl (by decide +kernel) ⟨Nat.le_of_ble_eq_true rfl, Nat.le_of_ble_eq_true rfl⟩) ⟨tq_bl, va_recv hK hP (ci := 5) (q0 := 5) rfl rfl, (tq_pr hP hK hD hS hA hZ hN)⟩ rfl rfl hl.1 rfl (lv_room (Nat.le_of_ble_eq_true rfl)) d_Mo_search_118 ⟨Nat.zero_le _, Nat.zero_le _⟩) hD hS hA (fun H locs hP hD hS => ?_)
        refine lv_icmp_ge (tgt := 155) hx hb d_Mo_search_121 (by decide) (fun c48 => ?_) (fun c48 => ?_)
        · replace hg := tq_if_t c48 hg
          exact ih.2.2.2.2.2.1 hP hD hS (lv_sub hl [0, 1, 2] rfl) (tq_gi hg hn)
        · replace hg := tq_if_f c48 hg
          refine lv_aload_n hx hb d_Mo_search_124 rfl (lv_at hl 0 rfl) ?_
          refine va_get (D := (dC, dI)) (ci := 5) (v := .ref (ad 46)) (C := "TableauNodesModel") (T := F_Mo) (N := 25) hx hb hts in_Mo hown hK hP 5 rfl rfl 23 (by decide) (hts _ tw_622) (fun _ h9 => h9) rfl d_Mo_search_125 ?_
          refine lv_iload_n hx hb d_Mo_search_128 rfl (lv_at hl 1 rfl) ?_
          refine lv_iload_n hx hb d_Mo_search_129 rfl (lv_at hl 1 rfl) ?_
          refine lv_iload hx hb d_Mo_search_130 (lv_at hl 2 rfl) ?_
          obtain ⟨r50, σ51, f49, hg⟩ := tq_ob_s hg
          refine tq_aI (va_runS (As := [.int x3, .int x3, .int x4]) (rest := [.ref (ad 46)]) ⟨hx, hb, hml, hown, hts⟩ (c_Mo_at l dC dI cI cL cZ ad tt H.size σ47 x3 x3 x4  r50 σ51 f49) (va_cwS 3 hts (tq_gS tw_798 tw_799 tw_6 tw_800) rfl rfl rfl (by decide +kernel) ⟨Nat.le_of_ble_eq_true rfl, Nat.le_of_ble_eq_true rfl⟩) ⟨tq_bl, (tq_pr hP hK hD hS hA hZ hN)⟩ rfl rfl hl.1 rfl (lv_room (Nat.le_of_ble_eq_true rfl)) d_Mo_search_132 ⟨Nat.zero_le _, Nat.zero_le _⟩) hD hS hA (fun H locs hP hD hS => ?_)
          obtain ⟨g52, hg⟩ := tq_gd_s hg
          refine va_zald hx hb hK hP 46 2 rfl rfl g52 d_Mo_search_135 ?_
          refine lv_if_eq (tgt := 149) hx hb d_Mo_search_136 (by decide) (fun c53 => ?_) (fun c53 => ?_)
          · replace hg := tq_if_t c53 hg
            obtain ⟨v54, ev54, hg⟩ := tq_lj_s hg
            refine lv_iinc (v := v54) (lv' := [(4, .int v54), (0, .ref (ad 5)), (3, .int x3)]) hx hb d_Mo_search_149 hl (k := 2) rfl (by rw [ev54]; rfl) (by decide) rfl (fun ls hl => ?_)
            refine lv_goto (tgt := 115) hx hb d_Mo_search_152 (by decide) ?_
            exact ih.2.2.2.2.1 hP hD hS (lv_sub hl [1, 2, 0] rfl) (tq_gi hg hn)
          · replace hg := tq_if_f c53 hg
            refine lv_aload_n hx hb d_Mo_search_139 rfl (lv_at hl 0 rfl) ?_
            refine lv_iload_n hx hb d_Mo_search_140 rfl (lv_at hl 1 rfl) ?_
            refine lv_iload hx hb d_Mo_search_141 (lv_at hl 2 rfl) ?_
            obtain ⟨r56, σ57, f55, hg⟩ := tq_ob_s hg
            refine tq_aI (va_runV (As := [.int x3, .int x4]) (rest := []) ⟨hx, hb, hml, hown, hts⟩ (c_Mo_isLeft l dC dI cI cL cZ ad tt H.size σ51 x3 x4  r56 σ57 f55) (cwV 2 hts (tq_gV tw_809 tw_811 ts_46 tw_6 tw_812) rfl rfl rfl (by decide +kernel) ⟨Nat.le_of_ble_eq_true rfl, Nat.le_of_ble_eq_true rfl⟩) ⟨tq_bl, va_recv hK hP (ci := 5) (q0 := 5) rfl rfl, (tq_pr hP hK hD hS hA hZ hN)⟩ rfl rfl hl.1 rfl (lv_room (Nat.le_of_ble_eq_true rfl)) d_Mo_search_143 ⟨Nat.zero_le _, Nat.zero_le _⟩) hD hS hA (fun H locs hP hD hS => ?_)
            refine lv_if_ne (tgt := 155) hx hb d_Mo_search_146 (by decide) (fun c58 => ?_) (fun c58 => ?_)
            · replace hg := tq_if_t c58 hg
              exact ih.2.2.2.2.2.1 hP hD hS (lv_sub hl [0, 1, 2] rfl) (tq_gi hg hn)
            · replace hg := tq_if_n c58 hg
              obtain ⟨v59, ev59, hg⟩ := tq_lj_s hg
              refine lv_iinc (v := v59) (lv' := [(4, .int v59), (0, .ref (ad 5)), (3, .int x3)]) hx hb d_Mo_search_149 hl (k := 2) rfl (by rw [ev59]; rfl) (by decide) rfl (fun ls hl => ?_)
              refine lv_goto (tgt := 115) hx hb d_Mo_search_152 (by decide) ?_
              exact ih.2.2.2.2.1 hP hD hS (lv_sub hl [1, 2, 0] rfl) (tq_gi hg hn)
      · intro x3 x4 σ H locs ls hP hD hS hl h9
        obtain ⟨q9, hg, hn⟩ := tq_go_s h9 (show ¬ (155 : Nat) = tq_rt by decide)
        replace hg : bk_Mo_search_155 [x3, x4] [] σ = some q9 := hg
        unfold bk_Mo_search_155 at hg
        refine lv_aload_n hx hb d_Mo_search_155 rfl (lv_at hl 0 rfl) ?_
        refine va_get (D := (dC, dI)) (ci := 5) (v := .ref (ad 47)) (C := "TableauNodesModel") (T := F_Mo) (N := 25) hx hb hts in_Mo hown hK hP 5 rfl rfl 24 (by decide) (hts _ tw_623) (fun _ h9 => h9) rfl d_Mo_search_156 ?_
        refine lv_iload_n hx hb d_Mo_search_159 rfl (lv_at hl 1 rfl) ?_
        refine lv_iload hx hb d_Mo_search_160 (lv_at hl 2 rfl) ?_
        obtain ⟨g60, hg⟩ := tq_gd_s hg
        refine va_iast hx hb hK hP hD hS 47 0 rfl rfl g60 d_Mo_search_162 (fun H locs hP hD hS => ?_)
        obtain ⟨σ61, eσ61, hg⟩ := tq_lj_s hg
        replace hP : va_P (dC, dI) tq_cl (wo cI cL cZ ad σ61) H := by rw [eσ61, ← ws_i34]; exact hP
        replace hD : va_D A (wo cI cL cZ ad σ61) := by rw [eσ61, ← ws_i34]; exact hD
        refine lv_iload hx hb d_Mo_search_163 (lv_at hl 2 rfl) ?_
        refine lv_aload_n hx hb d_Mo_search_165 rfl (lv_at hl 0 rfl) ?_
        obtain ⟨r63, σ64, f62, hg⟩ := tq_ob_s hg
        refine tq_aI (va_runV (As := []) (rest := [.int x4]) ⟨hx, hb, hml, hown, hts⟩ (c_Mo_size l dC dI cI cL cZ ad tt H.size σ61   r63 σ64 f62) (cwV 0 hts (tq_gV tw_731 tw_733 ts_36 tw_6 tw_734) rfl rfl rfl (by decide +kernel) ⟨Nat.le_of_ble_eq_true rfl, Nat.le_of_ble_eq_true rfl⟩) ⟨tq_bl, va_recv hK hP (ci := 5) (q0 := 5) rfl rfl, (tq_pr hP hK hD hS hA hZ hN)⟩ rfl rfl hl.1 rfl (lv_room (Nat.le_of_ble_eq_true rfl)) d_Mo_search_166 ⟨Nat.zero_le _, Nat.zero_le _⟩) hD hS hA (fun H locs hP hD hS => ?_)
        refine lv_icmp_ne (tgt := 178) hx hb d_Mo_search_169 (by decide) (fun c65 => ?_) (fun c65 => ?_)
        · replace hg := tq_if_t c65 hg
          obtain ⟨v66, ev66, hg⟩ := tq_lj_s hg
          refine lv_iinc (v := v66) (lv' := [(3, .int v66), (0, .ref (ad 5)), (4, .int x4)]) hx hb d_Mo_search_178 hl (k := 1) rfl (by rw [ev66]; rfl) (by decide) rfl (fun ls hl => ?_)
          refine lv_iload_n hx hb d_Mo_search_181 rfl (lv_at hl 0 rfl) ?_
          refine lv_iconst (v := 5) hx hb d_Mo_search_182 (by decide) ?_
          refine lv_icmp_ge (tgt := 193) hx hb d_Mo_search_183 (by decide) (fun c67 => ?_) (fun c67 => ?_)
          · replace hg := tq_if_t c67 hg
            refine lv_goto (tgt := 96) hx hb d_Mo_search_193 (by decide) ?_
            exact ih.2.2.2.1 hP hD hS (lv_sub hl [1, 0] rfl) (tq_gi hg hn)
          · replace hg := tq_if_f c67 hg
            refine lv_aload_n hx hb d_Mo_search_186 rfl (lv_at hl 1 rfl) ?_
            refine va_get (D := (dC, dI)) (ci := 5) (v := .ref (ad 47)) (C := "TableauNodesModel") (T := F_Mo) (N := 25) hx hb hts in_Mo hown hK hP 5 rfl rfl 24 (by decide) (hts _ tw_623) (fun _ h9 => h9) rfl d_Mo_search_187 ?_
            refine lv_iload_n hx hb d_Mo_search_190 rfl (lv_at hl 0 rfl) ?_
            refine lv_iconst (v := (-1)) hx hb d_Mo_search_191 (by decide) ?_
            obtain ⟨g68, hg⟩ := tq_gd_s hg
            refine va_iast hx hb hK hP hD hS 47 0 rfl rfl g68 d_Mo_search_192 (fun H locs hP hD hS => ?_)
            obtain ⟨σ69, eσ69, hg⟩ := tq_lj_s hg
            replace hP : va_P (dC, dI) tq_cl (wo cI cL cZ ad σ69) H := by rw [eσ69, ← ws_i34]; exact hP
            replace hD : va_D A (wo cI cL cZ ad σ69) := by rw [eσ69, ← ws_i34]; exact hD
            refine lv_goto (tgt := 96) hx hb d_Mo_search_193 (by decide) ?_
            exact ih.2.2.2.1 hP hD hS (lv_sub hl [1, 0] rfl) (tq_gi hg hn)
        · replace hg := tq_if_n c65 hg
          obtain ⟨v70, ev70, hg⟩ := tq_lj_s hg
          refine lv_iinc (v := v70) (lv' := [(3, .int v70), (0, .ref (ad 5)), (4, .int x4)]) hx hb d_Mo_search_172 hl (k := 1) rfl (by rw [ev70]; rfl) (by decide) rfl (fun ls hl => ?_)
          refine lv_goto (tgt := 193) hx hb d_Mo_search_175 (by decide) ?_
          refine lv_goto (tgt := 96) hx hb d_Mo_search_193 (by decide) ?_
          exact ih.2.2.2.1 hP hD hS (lv_sub hl [1, 0] rfl) (tq_gi hg hn)
      · intro x3 σ H locs ls hP hD hS hl h9
        obtain ⟨q9, hg, hn⟩ := tq_go_s h9 (show ¬ (196 : Nat) = tq_rt by decide)
        replace hg : bk_Mo_search_196 [x3] [] σ = some q9 := hg
        unfold bk_Mo_search_196 at hg
        refine lv_iload_n hx hb d_Mo_search_196 rfl (lv_at hl 0 rfl) ?_
        refine lv_iconst (v := 5) hx hb d_Mo_search_197 (by decide) ?_
        refine lv_icmp_ne (tgt := 205) hx hb d_Mo_search_198 (by decide) (fun c71 => ?_) (fun c71 => ?_)
        · replace hg := tq_if_t c71 hg
          refine lv_iconst (v := 0) hx hb d_Mo_search_205 (by decide) ?_
          exact W.zret (v := 0) hx hb hr rfl (fun t ht hW => ⟨⟨0, σ, rfl, tq_grI hg hn, by rw [ht]; exact hP, va_K.moved hW.alike hK, hD⟩, hS.F ht⟩) hS.2.2 d_Mo_search_206
        · replace hg := tq_if_n c71 hg
          refine lv_iconst (v := 1) hx hb d_Mo_search_201 (by decide) ?_
          refine lv_goto (tgt := 206) hx hb d_Mo_search_202 (by decide) ?_
          exact W.zret (v := 1) hx hb hr rfl (fun t ht hW => ⟨⟨1, σ, rfl, tq_grI hg hn, by rw [ht]; exact hP, va_K.moved hW.alike hK, hD⟩, hS.F ht⟩) hS.2.2 d_Mo_search_206
  exact (key n0).1 hP hD hS hl h0
noncomputable def bk_Mo_run_0 : List Int32 → List Int64 → tq_S → Option tq_C
  | [], [], σ => tq_ob (tq_fI st_Mo_search (0, [(-1), 0], [], σ)) (fun r2 σ3 => if r2 = 0 then some (tq_rt, [0], [], σ3) else some (tq_rt, [1], [], σ3))
  | _, _, _ => none
noncomputable def st_Mo_run (c : tq_C) : Option tq_C := if c.1 = 0 then bk_Mo_run_0 c.2.1 c.2.2.1 c.2.2.2 else none
set_option maxHeartbeats 40000000 in
set_option maxRecDepth 100000 in
theorem c_Mo_run (l : Launch) (dC : Nat → ClassId) (dI : Nat → Nat → Nat) (cI cL cZ : ClassId) (ad : Nat → Nat) (tt : Nat) (sz : Nat) (σ : tq_S) (r : Int32) (σ' : tq_S) (hf : tq_fI st_Mo_run (0, [], [], σ) = some (r, σ')) : Met l y_Mo_run w_Mo_run ({ frames := 5, cells := 0, slots := 0, locals := 116 } : Room) (va_Pc [.ref (ad 5)] (tq_B dC dI cI cL cZ tt (wo cI cL cZ ad σ) sz)) (va_Qi (fun (r' : Int32) (u : tq_S) => r' = r ∧ u = σ') (tq_E dC dI cI cL cZ (wo cI cL cZ ad) (va_A (wo cI cL cZ ad σ) sz)) (va_A (wo cI cL cZ ad σ) sz)) 0 0 (va_A (wo cI cL cZ ad σ) sz) := by
  obtain ⟨n0, h0⟩ := tq_fI_to hf
  refine Met.ofW (cc := prog_7_method_36_code) (maxL := 1) (ret := (some .int)) (by decide) rfl ?_
  intro p e s m args below meth c s₁ B hml hv
  obtain ⟨rfl, hsz, hP, hK, hD0, hZ, hN⟩ := hv
  have hx := B.exec
  have hb := B.bytes
  have hr := B.returns
  have hts : ∀ w ∈ tq_T, w.before _ s = true := fun w h => atoms_spec (ws := w_Mo_run) B.pre w (List.mem_cons_of_mem _ h)
  have hown : s.vm.findClass "TableauNodesModel" = some m.cls := findClass_of_methodNamed B.named
  have hlocks := B.notSynchronized
  subst hsz
  have hD := hD0.self (sz := s.heap.size)
  have hS : va_S (va_A (wo cI cL cZ ad σ) s.heap.size) s.heap s.heap [] := va_S.rf
  have hA : ∀ q : Nat, s.heap.size ≤ q → va_A (wo cI cL cZ ad σ) s.heap.size q := fun q h => Or.inr h
  generalize va_A (wo cI cL cZ ad σ) s.heap.size = A at hD hS hA hZ ⊢
  have hl := lv_entry ([.ref (ad 5)]) (n := 1) (Nat.le_of_ble_eq_true rfl)
  rw [lg_entry_eq]
  generalize (lg_sl ([.ref (ad 5)]) ++ List.replicate (1 - (lg_sl ([.ref (ad 5)])).length) Slot.unset).toArray = ls at hl ⊢
  have hl : lv_has ls 1 [(0, .ref (ad 5))] := hl
  have key : ∀ n : Nat, (∀ {σ : tq_S} {H : Heap} {locs : List Loc} {ls : Array Slot}, va_P (dC, dI) tq_cl (wo cI cL cZ ad σ) H → va_D A (wo cI cL cZ ad σ) → va_S A s.heap H locs → lv_has ls 1 [(0, .ref (ad 5))] → tq_go st_Mo_run n (0, [], [], σ) = some (tq_rt, [r], [], σ') → W p l e (headSpec w_Mo_run ({ frames := 5, cells := 0, slots := 0, locals := 116 } : Room)).room s m ([.ref (ad 5)] : List Value).toArray below meth c H locs 0 0 (MQ below (va_Qi (fun (r' : Int32) (u : tq_S) => r' = r ∧ u = σ') (tq_E dC dI cI cL cZ (wo cI cL cZ ad) A) A) ([.ref (ad 5)] : List Value).toArray s 0 0 A) (F0 m 0 ls [])) := by
    intro n
    induction n with
    | zero => exact fun _ _ _ _ h => by cases h
    | succ n ih =>
      intro  σ H locs ls hP hD hS hl h9
      obtain ⟨q9, hg, hn⟩ := tq_go_s h9 (show ¬ (0 : Nat) = tq_rt by decide)
      replace hg : bk_Mo_run_0 [] [] σ = some q9 := hg
      unfold bk_Mo_run_0 at hg
      refine lv_aload_n hx hb d_Mo_run_0 rfl (lv_at hl 0 rfl) ?_
      refine lv_iconst (v := (-1)) hx hb d_Mo_run_1 (by decide) ?_
      refine lv_iconst (v := 0) hx hb d_Mo_run_2 (by decide) ?_
      obtain ⟨r2, σ3, f1, hg⟩ := tq_ob_s hg
      refine tq_aI (va_runV (As := [.int (-1), .int 0]) (rest := []) ⟨hx, hb, hml, hown, hts⟩ (c_Mo_search l dC dI cI cL cZ ad tt H.size σ (-1) 0  r2 σ3 f1) (cwV 2 hts (tq_gV tw_794 tw_796 ts_43 tw_6 tw_797) rfl rfl rfl (by decide +kernel) ⟨Nat.le_of_ble_eq_true rfl, Nat.le_of_ble_eq_true rfl⟩) ⟨tq_bl, va_recv hK hP (ci := 5) (q0 := 5) rfl rfl, (tq_pr hP hK hD hS hA hZ hN)⟩ rfl rfl hl.1 rfl (lv_room (Nat.le_of_ble_eq_true rfl)) d_Mo_run_3 ⟨Nat.zero_le _, Nat.zero_le _⟩) hD hS hA (fun H locs hP hD hS => ?_)
      refine lv_if_eq (tgt := 13) hx hb d_Mo_run_6 (by decide) (fun c4 => ?_) (fun c4 => ?_)
      · replace hg := tq_if_t c4 hg
        refine lv_iconst (v := 0) hx hb d_Mo_run_13 (by decide) ?_
        exact W.iret (v := 0) hx hb hr (fun t ht hW => ⟨⟨0, σ3, rfl, tq_grI hg hn, by rw [ht]; exact hP, va_K.moved hW.alike hK, hD⟩, hS.F ht⟩) hS.2.2 d_Mo_run_14
      · replace hg := tq_if_f c4 hg
        refine lv_iconst (v := 1) hx hb d_Mo_run_9 (by decide) ?_
        refine lv_goto (tgt := 14) hx hb d_Mo_run_10 (by decide) ?_
        exact W.iret (v := 1) hx hb hr (fun t ht hW => ⟨⟨1, σ3, rfl, tq_grI hg hn, by rw [ht]; exact hP, va_K.moved hW.alike hK, hD⟩, hS.F ht⟩) hS.2.2 d_Mo_run_14
  exact (key n0) hP hD hS hl h0
noncomputable def bk_Mo_model_0 : List Int32 → List Int64 → tq_S → Option tq_C
  | [x1], [], σ => tq_ob (tq_fI st_Mo_isThing (0, [x1], [], σ)) (fun r2 σ3 => if ¬ r2 = 0 then tq_ob (tq_fI st_Mo_search (0, [(-1), 0], [], σ3)) (fun r6 σ7 => if r6 = 0 then some (tq_rt, [(-2)], [], σ7) else tq_gd x1 5 (some (tq_rt, [(ia σ7 34 x1)], [], σ7))) else some (tq_rt, [(-1)], [], σ3))
  | _, _, _ => none
noncomputable def st_Mo_model (c : tq_C) : Option tq_C := if c.1 = 0 then bk_Mo_model_0 c.2.1 c.2.2.1 c.2.2.2 else none
set_option maxHeartbeats 40000000 in
set_option maxRecDepth 100000 in
theorem c_Mo_model (l : Launch) (dC : Nat → ClassId) (dI : Nat → Nat → Nat) (cI cL cZ : ClassId) (ad : Nat → Nat) (tt : Nat) (sz : Nat) (σ : tq_S) (a1 : Int32) (r : Int32) (σ' : tq_S) (hf : tq_fI st_Mo_model (0, [a1], [], σ) = some (r, σ')) : Met l y_Mo_model w_Mo_model ({ frames := 5, cells := 0, slots := 0, locals := 116 } : Room) (va_Pc [.ref (ad 5), .int a1] (tq_B dC dI cI cL cZ tt (wo cI cL cZ ad σ) sz)) (va_Qi (fun (r' : Int32) (u : tq_S) => r' = r ∧ u = σ') (tq_E dC dI cI cL cZ (wo cI cL cZ ad) (va_A (wo cI cL cZ ad σ) sz)) (va_A (wo cI cL cZ ad σ) sz)) 0 0 (va_A (wo cI cL cZ ad σ) sz) := by
  obtain ⟨n0, h0⟩ := tq_fI_to hf
  refine Met.ofW (cc := prog_7_method_37_code) (maxL := 2) (ret := (some .int)) (by decide) rfl ?_
  intro p e s m args below meth c s₁ B hml hv
  obtain ⟨rfl, hsz, hP, hK, hD0, hZ, hN⟩ := hv
  have hx := B.exec
  have hb := B.bytes
  have hr := B.returns
  have hts : ∀ w ∈ tq_T, w.before _ s = true := fun w h => atoms_spec (ws := w_Mo_model) B.pre w (List.mem_cons_of_mem _ h)
  have hown : s.vm.findClass "TableauNodesModel" = some m.cls := findClass_of_methodNamed B.named
  have hlocks := B.notSynchronized
  subst hsz
  have hD := hD0.self (sz := s.heap.size)
  have hS : va_S (va_A (wo cI cL cZ ad σ) s.heap.size) s.heap s.heap [] := va_S.rf
  have hA : ∀ q : Nat, s.heap.size ≤ q → va_A (wo cI cL cZ ad σ) s.heap.size q := fun q h => Or.inr h
  generalize va_A (wo cI cL cZ ad σ) s.heap.size = A at hD hS hA hZ ⊢
  have hl := lv_entry ([.ref (ad 5), .int a1]) (n := 2) (Nat.le_of_ble_eq_true rfl)
  rw [lg_entry_eq]
  generalize (lg_sl ([.ref (ad 5), .int a1]) ++ List.replicate (2 - (lg_sl ([.ref (ad 5), .int a1])).length) Slot.unset).toArray = ls at hl ⊢
  have hl : lv_has ls 2 [(0, .ref (ad 5)), (1, .int a1)] := hl
  have key : ∀ n : Nat, (∀ {x1 : Int32} {σ : tq_S} {H : Heap} {locs : List Loc} {ls : Array Slot}, va_P (dC, dI) tq_cl (wo cI cL cZ ad σ) H → va_D A (wo cI cL cZ ad σ) → va_S A s.heap H locs → lv_has ls 2 [(0, .ref (ad 5)), (1, .int x1)] → tq_go st_Mo_model n (0, [x1], [], σ) = some (tq_rt, [r], [], σ') → W p l e (headSpec w_Mo_model ({ frames := 5, cells := 0, slots := 0, locals := 116 } : Room)).room s m ([.ref (ad 5), .int a1] : List Value).toArray below meth c H locs 0 0 (MQ below (va_Qi (fun (r' : Int32) (u : tq_S) => r' = r ∧ u = σ') (tq_E dC dI cI cL cZ (wo cI cL cZ ad) A) A) ([.ref (ad 5), .int a1] : List Value).toArray s 0 0 A) (F0 m 0 ls [])) := by
    intro n
    induction n with
    | zero => exact fun _ _ _ _ h => by cases h
    | succ n ih =>
      intro x1 σ H locs ls hP hD hS hl h9
      obtain ⟨q9, hg, hn⟩ := tq_go_s h9 (show ¬ (0 : Nat) = tq_rt by decide)
      replace hg : bk_Mo_model_0 [x1] [] σ = some q9 := hg
      unfold bk_Mo_model_0 at hg
      refine lv_iload_n hx hb d_Mo_model_0 rfl (lv_at hl 1 rfl) ?_
      obtain ⟨r2, σ3, f1, hg⟩ := tq_ob_s hg
      refine tq_aI (va_runS (As := [.int x1]) (rest := []) ⟨hx, hb, hml, hown, hts⟩ (c_Mo_isThing l dC dI cI cL cZ ad tt H.size σ x1  r2 σ3 f1) (va_cwS 1 hts (tq_gS tw_779 tw_780 tw_6 tw_781) rfl rfl rfl (by decide +kernel) ⟨Nat.le_of_ble_eq_true rfl, Nat.le_of_ble_eq_true rfl⟩) ⟨tq_bl, (tq_pr hP hK hD hS hA hZ hN)⟩ rfl rfl hl.1 rfl (lv_room (Nat.le_of_ble_eq_true rfl)) d_Mo_model_1 ⟨Nat.zero_le _, Nat.zero_le _⟩) hD hS hA (fun H locs hP hD hS => ?_)
      refine lv_if_ne (tgt := 9) hx hb d_Mo_model_4 (by decide) (fun c4 => ?_) (fun c4 => ?_)
      · replace hg := tq_if_t c4 hg
        refine lv_aload_n hx hb d_Mo_model_9 rfl (lv_at hl 0 rfl) ?_
        refine lv_iconst (v := (-1)) hx hb d_Mo_model_10 (by decide) ?_
        refine lv_iconst (v := 0) hx hb d_Mo_model_11 (by decide) ?_
        obtain ⟨r6, σ7, f5, hg⟩ := tq_ob_s hg
        refine tq_aI (va_runV (As := [.int (-1), .int 0]) (rest := []) ⟨hx, hb, hml, hown, hts⟩ (c_Mo_search l dC dI cI cL cZ ad tt H.size σ3 (-1) 0  r6 σ7 f5) (cwV 2 hts (tq_gV tw_794 tw_796 ts_43 tw_6 tw_797) rfl rfl rfl (by decide +kernel) ⟨Nat.le_of_ble_eq_true rfl, Nat.le_of_ble_eq_true rfl⟩) ⟨tq_bl, va_recv hK hP (ci := 5) (q0 := 5) rfl rfl, (tq_pr hP hK hD hS hA hZ hN)⟩ rfl rfl hl.1 rfl (lv_room (Nat.le_of_ble_eq_true rfl)) d_Mo_model_12 ⟨Nat.zero_le _, Nat.zero_le _⟩) hD hS hA (fun H locs hP hD hS => ?_)
        refine lv_if_eq (tgt := 27) hx hb d_Mo_model_15 (by decide) (fun c8 => ?_) (fun c8 => ?_)
        · replace hg := tq_if_t c8 hg
          refine lv_bipush (v := (-2)) hx hb d_Mo_model_27 (by decide) ?_
          exact W.iret (v := (-2)) hx hb hr (fun t ht hW => ⟨⟨(-2), σ7, rfl, tq_grI hg hn, by rw [ht]; exact hP, va_K.moved hW.alike hK, hD⟩, hS.F ht⟩) hS.2.2 d_Mo_model_29
        · replace hg := tq_if_f c8 hg
          refine lv_aload_n hx hb d_Mo_model_18 rfl (lv_at hl 0 rfl) ?_
          refine va_get (D := (dC, dI)) (ci := 5) (v := .ref (ad 47)) (C := "TableauNodesModel") (T := F_Mo) (N := 25) hx hb hts in_Mo hown hK hP 5 rfl rfl 24 (by decide) (hts _ tw_623) (fun _ h9 => h9) rfl d_Mo_model_19 ?_
          refine lv_iload_n hx hb d_Mo_model_22 rfl (lv_at hl 1 rfl) ?_
          obtain ⟨g9, hg⟩ := tq_gd_s hg
          refine va_iald hx hb hK hP 47 0 rfl rfl g9 d_Mo_model_23 ?_
          refine lv_goto (tgt := 29) hx hb d_Mo_model_24 (by decide) ?_
          exact W.iret (v := (ia σ7 34 x1)) hx hb hr (fun t ht hW => ⟨⟨(ia σ7 34 x1), σ7, rfl, tq_grI hg hn, by rw [ht]; exact hP, va_K.moved hW.alike hK, hD⟩, hS.F ht⟩) hS.2.2 d_Mo_model_29
      · replace hg := tq_if_n c4 hg
        refine lv_iconst (v := (-1)) hx hb d_Mo_model_7 (by decide) ?_
        exact W.iret (v := (-1)) hx hb hr (fun t ht hW => ⟨⟨(-1), σ3, rfl, tq_grI hg hn, by rw [ht]; exact hP, va_K.moved hW.alike hK, hD⟩, hS.F ht⟩) hS.2.2 d_Mo_model_8
  exact (key n0) hP hD hS hl h0
noncomputable def bk_Mo_surely_0 : List Int32 → List Int64 → tq_S → Option tq_C
  | [x1, x2], [], σ => tq_ob (tq_fI st_Mo_isThing (0, [x1], [], σ)) (fun r2 σ3 => if r2 = 0 then some (tq_rt, [(-1)], [], σ3) else tq_ob (tq_fI st_Mo_isConcept (0, [x2], [], σ3)) (fun r6 σ7 => if r6 = 0 then some (tq_rt, [(-1)], [], σ7) else tq_ob (tq_fI st_Mo_search (0, [x1, x2], [], σ7)) (fun r10 σ11 => if r10 = 0 then some (tq_rt, [1], [], σ11) else some (tq_rt, [0], [], σ11))))
  | _, _, _ => none
noncomputable def st_Mo_surely (c : tq_C) : Option tq_C := if c.1 = 0 then bk_Mo_surely_0 c.2.1 c.2.2.1 c.2.2.2 else none
set_option maxHeartbeats 40000000 in
set_option maxRecDepth 100000 in
theorem c_Mo_surely (l : Launch) (dC : Nat → ClassId) (dI : Nat → Nat → Nat) (cI cL cZ : ClassId) (ad : Nat → Nat) (tt : Nat) (sz : Nat) (σ : tq_S) (a1 : Int32) (a2 : Int32) (r : Int32) (σ' : tq_S) (hf : tq_fI st_Mo_surely (0, [a1, a2], [], σ) = some (r, σ')) : Met l y_Mo_surely w_Mo_surely ({ frames := 5, cells := 0, slots := 0, locals := 116 } : Room) (va_Pc [.ref (ad 5), .int a1, .int a2] (tq_B dC dI cI cL cZ tt (wo cI cL cZ ad σ) sz)) (va_Qi (fun (r' : Int32) (u : tq_S) => r' = r ∧ u = σ') (tq_E dC dI cI cL cZ (wo cI cL cZ ad) (va_A (wo cI cL cZ ad σ) sz)) (va_A (wo cI cL cZ ad σ) sz)) 0 0 (va_A (wo cI cL cZ ad σ) sz) := by
  obtain ⟨n0, h0⟩ := tq_fI_to hf
  refine Met.ofW (cc := prog_7_method_38_code) (maxL := 3) (ret := (some .int)) (by decide) rfl ?_
  intro p e s m args below meth c s₁ B hml hv
  obtain ⟨rfl, hsz, hP, hK, hD0, hZ, hN⟩ := hv
  have hx := B.exec
  have hb := B.bytes
  have hr := B.returns
  have hts : ∀ w ∈ tq_T, w.before _ s = true := fun w h => atoms_spec (ws := w_Mo_surely) B.pre w (List.mem_cons_of_mem _ h)
  have hown : s.vm.findClass "TableauNodesModel" = some m.cls := findClass_of_methodNamed B.named
  have hlocks := B.notSynchronized
  subst hsz
  have hD := hD0.self (sz := s.heap.size)
  have hS : va_S (va_A (wo cI cL cZ ad σ) s.heap.size) s.heap s.heap [] := va_S.rf
  have hA : ∀ q : Nat, s.heap.size ≤ q → va_A (wo cI cL cZ ad σ) s.heap.size q := fun q h => Or.inr h
  generalize va_A (wo cI cL cZ ad σ) s.heap.size = A at hD hS hA hZ ⊢
  have hl := lv_entry ([.ref (ad 5), .int a1, .int a2]) (n := 3) (Nat.le_of_ble_eq_true rfl)
  rw [lg_entry_eq]
  generalize (lg_sl ([.ref (ad 5), .int a1, .int a2]) ++ List.replicate (3 - (lg_sl ([.ref (ad 5), .int a1, .int a2])).length) Slot.unset).toArray = ls at hl ⊢
  have hl : lv_has ls 3 [(0, .ref (ad 5)), (1, .int a1), (2, .int a2)] := hl
  have key : ∀ n : Nat, (∀ {x1 x2 : Int32} {σ : tq_S} {H : Heap} {locs : List Loc} {ls : Array Slot}, va_P (dC, dI) tq_cl (wo cI cL cZ ad σ) H → va_D A (wo cI cL cZ ad σ) → va_S A s.heap H locs → lv_has ls 3 [(0, .ref (ad 5)), (1, .int x1), (2, .int x2)] → tq_go st_Mo_surely n (0, [x1, x2], [], σ) = some (tq_rt, [r], [], σ') → W p l e (headSpec w_Mo_surely ({ frames := 5, cells := 0, slots := 0, locals := 116 } : Room)).room s m ([.ref (ad 5), .int a1, .int a2] : List Value).toArray below meth c H locs 0 0 (MQ below (va_Qi (fun (r' : Int32) (u : tq_S) => r' = r ∧ u = σ') (tq_E dC dI cI cL cZ (wo cI cL cZ ad) A) A) ([.ref (ad 5), .int a1, .int a2] : List Value).toArray s 0 0 A) (F0 m 0 ls [])) := by
    intro n
    induction n with
    | zero => exact fun _ _ _ _ h => by cases h
    | succ n ih =>
      intro x1 x2 σ H locs ls hP hD hS hl h9
      obtain ⟨q9, hg, hn⟩ := tq_go_s h9 (show ¬ (0 : Nat) = tq_rt by decide)
      replace hg : bk_Mo_surely_0 [x1, x2] [] σ = some q9 := hg
      unfold bk_Mo_surely_0 at hg
      refine lv_iload_n hx hb d_Mo_surely_0 rfl (lv_at hl 1 rfl) ?_
      obtain ⟨r2, σ3, f1, hg⟩ := tq_ob_s hg
      refine tq_aI (va_runS (As := [.int x1]) (rest := []) ⟨hx, hb, hml, hown, hts⟩ (c_Mo_isThing l dC dI cI cL cZ ad tt H.size σ x1  r2 σ3 f1) (va_cwS 1 hts (tq_gS tw_779 tw_780 tw_6 tw_781) rfl rfl rfl (by decide +kernel) ⟨Nat.le_of_ble_eq_true rfl, Nat.le_of_ble_eq_true rfl⟩) ⟨tq_bl, (tq_pr hP hK hD hS hA hZ hN)⟩ rfl rfl hl.1 rfl (lv_room (Nat.le_of_ble_eq_true rfl)) d_Mo_surely_1 ⟨Nat.zero_le _, Nat.zero_le _⟩) hD hS hA (fun H locs hP hD hS => ?_)
      refine lv_if_eq (tgt := 32) hx hb d_Mo_surely_4 (by decide) (fun c4 => ?_) (fun c4 => ?_)
      · replace hg := tq_if_t c4 hg
        refine lv_iconst (v := (-1)) hx hb d_Mo_surely_32 (by decide) ?_
        exact W.iret (v := (-1)) hx hb hr (fun t ht hW => ⟨⟨(-1), σ3, rfl, tq_grI hg hn, by rw [ht]; exact hP, va_K.moved hW.alike hK, hD⟩, hS.F ht⟩) hS.2.2 d_Mo_surely_33
      · replace hg := tq_if_f c4 hg
        refine lv_aload_n hx hb d_Mo_surely_7 rfl (lv_at hl 0 rfl) ?_
        refine lv_iload_n hx hb d_Mo_surely_8 rfl (lv_at hl 2 rfl) ?_
        obtain ⟨r6, σ7, f5, hg⟩ := tq_ob_s hg
        refine tq_aI (va_runV (As := [.int x2]) (rest := []) ⟨hx, hb, hml, hown, hts⟩ (c_Mo_isConcept l dC dI cI cL cZ ad tt H.size σ3 x2  r6 σ7 f5) (cwV 1 hts (tq_gV tw_692 tw_694 ts_34 tw_6 tw_695) rfl rfl rfl (by decide +kernel) ⟨Nat.le_of_ble_eq_true rfl, Nat.le_of_ble_eq_true rfl⟩) ⟨tq_bl, va_recv hK hP (ci := 5) (q0 := 5) rfl rfl, (tq_pr hP hK hD hS hA hZ hN)⟩ rfl rfl hl.1 rfl (lv_room (Nat.le_of_ble_eq_true rfl)) d_Mo_surely_9 ⟨Nat.zero_le _, Nat.zero_le _⟩) hD hS hA (fun H locs hP hD hS => ?_)
        refine lv_if_eq (tgt := 32) hx hb d_Mo_surely_12 (by decide) (fun c8 => ?_) (fun c8 => ?_)
        · replace hg := tq_if_t c8 hg
          refine lv_iconst (v := (-1)) hx hb d_Mo_surely_32 (by decide) ?_
          exact W.iret (v := (-1)) hx hb hr (fun t ht hW => ⟨⟨(-1), σ7, rfl, tq_grI hg hn, by rw [ht]; exact hP, va_K.moved hW.alike hK, hD⟩, hS.F ht⟩) hS.2.2 d_Mo_surely_33
        · replace hg := tq_if_f c8 hg
          refine lv_aload_n hx hb d_Mo_surely_15 rfl (lv_at hl 0 rfl) ?_
          refine lv_iload_n hx hb d_Mo_surely_16 rfl (lv_at hl 1 rfl) ?_
          refine lv_iload_n hx hb d_Mo_surely_17 rfl (lv_at hl 2 rfl) ?_
          obtain ⟨r10, σ11, f9, hg⟩ := tq_ob_s hg
          refine tq_aI (va_runV (As := [.int x1, .int x2]) (rest := []) ⟨hx, hb, hml, hown, hts⟩ (c_Mo_search l dC dI cI cL cZ ad tt H.size σ7 x1 x2  r10 σ11 f9) (cwV 2 hts (tq_gV tw_794 tw_796 ts_43 tw_6 tw_797) rfl rfl rfl (by decide +kernel) ⟨Nat.le_of_ble_eq_true rfl, Nat.le_of_ble_eq_true rfl⟩) ⟨tq_bl, va_recv hK hP (ci := 5) (q0 := 5) rfl rfl, (tq_pr hP hK hD hS hA hZ hN)⟩ rfl rfl hl.1 rfl (lv_room (Nat.le_of_ble_eq_true rfl)) d_Mo_surely_18 ⟨Nat.zero_le _, Nat.zero_le _⟩) hD hS hA (fun H locs hP hD hS => ?_)
          refine lv_if_eq (tgt := 28) hx hb d_Mo_surely_21 (by decide) (fun c12 => ?_) (fun c12 => ?_)
          · replace hg := tq_if_t c12 hg
            refine lv_iconst (v := 1) hx hb d_Mo_surely_28 (by decide) ?_
            refine lv_goto (tgt := 33) hx hb d_Mo_surely_29 (by decide) ?_
            exact W.iret (v := 1) hx hb hr (fun t ht hW => ⟨⟨1, σ11, rfl, tq_grI hg hn, by rw [ht]; exact hP, va_K.moved hW.alike hK, hD⟩, hS.F ht⟩) hS.2.2 d_Mo_surely_33
          · replace hg := tq_if_f c12 hg
            refine lv_iconst (v := 0) hx hb d_Mo_surely_24 (by decide) ?_
            refine lv_goto (tgt := 33) hx hb d_Mo_surely_25 (by decide) ?_
            exact W.iret (v := 0) hx hb hr (fun t ht hW => ⟨⟨0, σ11, rfl, tq_grI hg hn, by rw [ht]; exact hP, va_K.moved hW.alike hK, hD⟩, hS.F ht⟩) hS.2.2 d_Mo_surely_33
  exact (key n0) hP hD hS hl h0
