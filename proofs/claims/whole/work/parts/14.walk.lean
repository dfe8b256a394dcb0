theorem d_Th_findDemands_0 : decode prog_5_method_16_code 0 = .ok (.iconst 0, 1) := by decide +kernel
theorem d_Th_findDemands_1 : decode prog_5_method_16_code 1 = .ok (.istore 4, 2) := by decide +kernel
theorem d_Th_findDemands_3 : decode prog_5_method_16_code 3 = .ok (.iconst 0, 1) := by decide +kernel
theorem d_Th_findDemands_4 : decode prog_5_method_16_code 4 = .ok (.istore 5, 2) := by decide +kernel
theorem d_Th_findDemands_6 : decode prog_5_method_16_code 6 = .ok (.iconst 0, 1) := by decide +kernel
theorem d_Th_findDemands_7 : decode prog_5_method_16_code 7 = .ok (.istore 6, 2) := by decide +kernel
theorem d_Th_findDemands_9 : decode prog_5_method_16_code 9 = .ok (.iload 6, 2) := by decide +kernel
theorem d_Th_findDemands_11 : decode prog_5_method_16_code 11 = .ok (.iconst 5, 1) := by decide +kernel
theorem d_Th_findDemands_12 : decode prog_5_method_16_code 12 = .ok (.if_icmp .ge 51, 3) := by decide +kernel
theorem d_Th_findDemands_15 : decode prog_5_method_16_code 15 = .ok (.iload_n 3, 1) := by decide +kernel
theorem d_Th_findDemands_16 : decode prog_5_method_16_code 16 = .ok (.i2l, 1) := by decide +kernel
theorem d_Th_findDemands_17 : decode prog_5_method_16_code 17 = .ok (.iload 6, 2) := by decide +kernel
theorem d_Th_findDemands_19 : decode prog_5_method_16_code 19 = .ok (.invokestatic 107, 3) := by decide +kernel
theorem d_Th_findDemands_22 : decode prog_5_method_16_code 22 = .ok (.ifCond .eq 35, 3) := by decide +kernel
theorem d_Th_findDemands_25 : decode prog_5_method_16_code 25 = .ok (.iload 4, 2) := by decide +kernel
theorem d_Th_findDemands_27 : decode prog_5_method_16_code 27 = .ok (.aload_n 0, 1) := by decide +kernel
theorem d_Th_findDemands_28 : decode prog_5_method_16_code 28 = .ok (.getfield 19, 3) := by decide +kernel
theorem d_Th_findDemands_31 : decode prog_5_method_16_code 31 = .ok (.iload_n 2, 1) := by decide +kernel
theorem d_Th_findDemands_32 : decode prog_5_method_16_code 32 = .ok (.iconst 5, 1) := by decide +kernel
theorem d_Th_findDemands_33 : decode prog_5_method_16_code 33 = .ok (.imul, 1) := by decide +kernel
theorem d_Th_findDemands_34 : decode prog_5_method_16_code 34 = .ok (.iload 6, 2) := by decide +kernel
theorem d_Th_findDemands_36 : decode prog_5_method_16_code 36 = .ok (.iadd, 1) := by decide +kernel
theorem d_Th_findDemands_37 : decode prog_5_method_16_code 37 = .ok (.iaload, 1) := by decide +kernel
theorem d_Th_findDemands_38 : decode prog_5_method_16_code 38 = .ok (.ior, 1) := by decide +kernel
theorem d_Th_findDemands_39 : decode prog_5_method_16_code 39 = .ok (.istore 4, 2) := by decide +kernel
theorem d_Th_findDemands_41 : decode prog_5_method_16_code 41 = .ok (.iload 5, 2) := by decide +kernel
theorem d_Th_findDemands_43 : decode prog_5_method_16_code 43 = .ok (.aload_n 0, 1) := by decide +kernel
theorem d_Th_findDemands_44 : decode prog_5_method_16_code 44 = .ok (.getfield 19, 3) := by decide +kernel
theorem d_Th_findDemands_47 : decode prog_5_method_16_code 47 = .ok (.iload 6, 2) := by decide +kernel
theorem d_Th_findDemands_49 : decode prog_5_method_16_code 49 = .ok (.iconst 5, 1) := by decide +kernel
theorem d_Th_findDemands_50 : decode prog_5_method_16_code 50 = .ok (.imul, 1) := by decide +kernel
theorem d_Th_findDemands_51 : decode prog_5_method_16_code 51 = .ok (.iload_n 2, 1) := by decide +kernel
theorem d_Th_findDemands_52 : decode prog_5_method_16_code 52 = .ok (.iadd, 1) := by decide +kernel
theorem d_Th_findDemands_53 : decode prog_5_method_16_code 53 = .ok (.iaload, 1) := by decide +kernel
theorem d_Th_findDemands_54 : decode prog_5_method_16_code 54 = .ok (.ior, 1) := by decide +kernel
theorem d_Th_findDemands_55 : decode prog_5_method_16_code 55 = .ok (.istore 5, 2) := by decide +kernel
theorem d_Th_findDemands_57 : decode prog_5_method_16_code 57 = .ok (.iinc 6 1, 3) := by decide +kernel
theorem d_Th_findDemands_60 : decode prog_5_method_16_code 60 = .ok (.goto (-51), 3) := by decide +kernel
theorem d_Th_findDemands_63 : decode prog_5_method_16_code 63 = .ok (.iload_n 1, 1) := by decide +kernel
theorem d_Th_findDemands_64 : decode prog_5_method_16_code 64 = .ok (.bipush 80, 2) := by decide +kernel
theorem d_Th_findDemands_66 : decode prog_5_method_16_code 66 = .ok (.imul, 1) := by decide +kernel
theorem d_Th_findDemands_67 : decode prog_5_method_16_code 67 = .ok (.iload_n 2, 1) := by decide +kernel
theorem d_Th_findDemands_68 : decode prog_5_method_16_code 68 = .ok (.bipush 16, 2) := by decide +kernel
theorem d_Th_findDemands_70 : decode prog_5_method_16_code 70 = .ok (.imul, 1) := by decide +kernel
theorem d_Th_findDemands_71 : decode prog_5_method_16_code 71 = .ok (.iadd, 1) := by decide +kernel
theorem d_Th_findDemands_72 : decode prog_5_method_16_code 72 = .ok (.istore 6, 2) := by decide +kernel
theorem d_Th_findDemands_74 : decode prog_5_method_16_code 74 = .ok (.iconst 0, 1) := by decide +kernel
theorem d_Th_findDemands_75 : decode prog_5_method_16_code 75 = .ok (.istore 7, 2) := by decide +kernel
theorem d_Th_findDemands_77 : decode prog_5_method_16_code 77 = .ok (.iconst 0, 1) := by decide +kernel
theorem d_Th_findDemands_78 : decode prog_5_method_16_code 78 = .ok (.istore 8, 2) := by decide +kernel
theorem d_Th_findDemands_80 : decode prog_5_method_16_code 80 = .ok (.iload 8, 2) := by decide +kernel
theorem d_Th_findDemands_82 : decode prog_5_method_16_code 82 = .ok (.aload_n 0, 1) := by decide +kernel
theorem d_Th_findDemands_83 : decode prog_5_method_16_code 83 = .ok (.getfield 102, 3) := by decide +kernel
theorem d_Th_findDemands_86 : decode prog_5_method_16_code 86 = .ok (.if_icmp .ge 101, 3) := by decide +kernel
theorem d_Th_findDemands_89 : decode prog_5_method_16_code 89 = .ok (.aload_n 0, 1) := by decide +kernel
theorem d_Th_findDemands_90 : decode prog_5_method_16_code 90 = .ok (.getfield 22, 3) := by decide +kernel
theorem d_Th_findDemands_93 : decode prog_5_method_16_code 93 = .ok (.iload 6, 2) := by decide +kernel
theorem d_Th_findDemands_95 : decode prog_5_method_16_code 95 = .ok (.iload 8, 2) := by decide +kernel
theorem d_Th_findDemands_97 : decode prog_5_method_16_code 97 = .ok (.iadd, 1) := by decide +kernel
theorem d_Th_findDemands_98 : decode prog_5_method_16_code 98 = .ok (.laload, 1) := by decide +kernel
theorem d_Th_findDemands_99 : decode prog_5_method_16_code 99 = .ok (.lstore 9, 2) := by decide +kernel
theorem d_Th_findDemands_101 : decode prog_5_method_16_code 101 = .ok (.lload 9, 2) := by decide +kernel
theorem d_Th_findDemands_103 : decode prog_5_method_16_code 103 = .ok (.invokestatic 136, 3) := by decide +kernel
theorem d_Th_findDemands_106 : decode prog_5_method_16_code 106 = .ok (.istore 11, 2) := by decide +kernel
theorem d_Th_findDemands_108 : decode prog_5_method_16_code 108 = .ok (.iload 11, 2) := by decide +kernel
theorem d_Th_findDemands_110 : decode prog_5_method_16_code 110 = .ok (.ifCond .le 71, 3) := by decide +kernel
theorem d_Th_findDemands_113 : decode prog_5_method_16_code 113 = .ok (.iload 8, 2) := by decide +kernel
theorem d_Th_findDemands_115 : decode prog_5_method_16_code 115 = .ok (.bipush 64, 2) := by decide +kernel
theorem d_Th_findDemands_117 : decode prog_5_method_16_code 117 = .ok (.imul, 1) := by decide +kernel
theorem d_Th_findDemands_118 : decode prog_5_method_16_code 118 = .ok (.lload 9, 2) := by decide +kernel
theorem d_Th_findDemands_120 : decode prog_5_method_16_code 120 = .ok (.invokestatic 160, 3) := by decide +kernel
theorem d_Th_findDemands_123 : decode prog_5_method_16_code 123 = .ok (.iadd, 1) := by decide +kernel
theorem d_Th_findDemands_124 : decode prog_5_method_16_code 124 = .ok (.istore 12, 2) := by decide +kernel
theorem d_Th_findDemands_126 : decode prog_5_method_16_code 126 = .ok (.iload 4, 2) := by decide +kernel
theorem d_Th_findDemands_128 : decode prog_5_method_16_code 128 = .ok (.iload 12, 2) := by decide +kernel
theorem d_Th_findDemands_130 : decode prog_5_method_16_code 130 = .ok (.iconst (-1), 1) := by decide +kernel
theorem d_Th_findDemands_131 : decode prog_5_method_16_code 131 = .ok (.ixor, 1) := by decide +kernel
theorem d_Th_findDemands_132 : decode prog_5_method_16_code 132 = .ok (.iand, 1) := by decide +kernel
theorem d_Th_findDemands_133 : decode prog_5_method_16_code 133 = .ok (.bipush 10, 2) := by decide +kernel
theorem d_Th_findDemands_135 : decode prog_5_method_16_code 135 = .ok (.ishl, 1) := by decide +kernel
theorem d_Th_findDemands_136 : decode prog_5_method_16_code 136 = .ok (.iload 5, 2) := by decide +kernel
theorem d_Th_findDemands_138 : decode prog_5_method_16_code 138 = .ok (.aload_n 0, 1) := by decide +kernel
theorem d_Th_findDemands_139 : decode prog_5_method_16_code 139 = .ok (.getfield 34, 3) := by decide +kernel
theorem d_Th_findDemands_142 : decode prog_5_method_16_code 142 = .ok (.iload 12, 2) := by decide +kernel
theorem d_Th_findDemands_144 : decode prog_5_method_16_code 144 = .ok (.invokevirtual 163, 3) := by decide +kernel
theorem d_Th_findDemands_147 : decode prog_5_method_16_code 147 = .ok (.iand, 1) := by decide +kernel
theorem d_Th_findDemands_148 : decode prog_5_method_16_code 148 = .ok (.ior, 1) := by decide +kernel
theorem d_Th_findDemands_149 : decode prog_5_method_16_code 149 = .ok (.istore 13, 2) := by decide +kernel
theorem d_Th_findDemands_151 : decode prog_5_method_16_code 151 = .ok (.aload_n 0, 1) := by decide +kernel
theorem d_Th_findDemands_152 : decode prog_5_method_16_code 152 = .ok (.iload_n 1, 1) := by decide +kernel
theorem d_Th_findDemands_153 : decode prog_5_method_16_code 153 = .ok (.sipush 1024, 3) := by decide +kernel
theorem d_Th_findDemands_156 : decode prog_5_method_16_code 156 = .ok (.imul, 1) := by decide +kernel
theorem d_Th_findDemands_157 : decode prog_5_method_16_code 157 = .ok (.iload 7, 2) := by decide +kernel
theorem d_Th_findDemands_159 : decode prog_5_method_16_code 159 = .ok (.iload 13, 2) := by decide +kernel
theorem d_Th_findDemands_161 : decode prog_5_method_16_code 161 = .ok (.invokevirtual 166, 3) := by decide +kernel
theorem d_Th_findDemands_164 : decode prog_5_method_16_code 164 = .ok (.istore 7, 2) := by decide +kernel
theorem d_Th_findDemands_166 : decode prog_5_method_16_code 166 = .ok (.lload 9, 2) := by decide +kernel
theorem d_Th_findDemands_168 : decode prog_5_method_16_code 168 = .ok (.lload 9, 2) := by decide +kernel
theorem d_Th_findDemands_170 : decode prog_5_method_16_code 170 = .ok (.lconst 1, 1) := by decide +kernel
theorem d_Th_findDemands_171 : decode prog_5_method_16_code 171 = .ok (.lsub, 1) := by decide +kernel
theorem d_Th_findDemands_172 : decode prog_5_method_16_code 172 = .ok (.land, 1) := by decide +kernel
theorem d_Th_findDemands_173 : decode prog_5_method_16_code 173 = .ok (.lstore 9, 2) := by decide +kernel
theorem d_Th_findDemands_175 : decode prog_5_method_16_code 175 = .ok (.iinc 11 (-1), 3) := by decide +kernel
theorem d_Th_findDemands_178 : decode prog_5_method_16_code 178 = .ok (.goto (-70), 3) := by decide +kernel
theorem d_Th_findDemands_181 : decode prog_5_method_16_code 181 = .ok (.iinc 8 1, 3) := by decide +kernel
theorem d_Th_findDemands_184 : decode prog_5_method_16_code 184 = .ok (.goto (-104), 3) := by decide +kernel
theorem d_Th_findDemands_187 : decode prog_5_method_16_code 187 = .ok (.iload 7, 2) := by decide +kernel
theorem d_Th_findDemands_189 : decode prog_5_method_16_code 189 = .ok (.ireturn, 1) := by decide +kernel
theorem d_Th_fitting_0 : decode prog_5_method_19_code 0 = .ok (.lload_n 1, 1) := by decide +kernel
theorem d_Th_fitting_1 : decode prog_5_method_19_code 1 = .ok (.lstore 6, 2) := by decide +kernel
theorem d_Th_fitting_3 : decode prog_5_method_19_code 3 = .ok (.iload_n 3, 1) := by decide +kernel
theorem d_Th_fitting_4 : decode prog_5_method_19_code 4 = .ok (.iload 4, 2) := by decide +kernel
theorem d_Th_fitting_6 : decode prog_5_method_19_code 6 = .ok (.ior, 1) := by decide +kernel
theorem d_Th_fitting_7 : decode prog_5_method_19_code 7 = .ok (.istore 8, 2) := by decide +kernel
theorem d_Th_fitting_9 : decode prog_5_method_19_code 9 = .ok (.iconst 0, 1) := by decide +kernel
theorem d_Th_fitting_10 : decode prog_5_method_19_code 10 = .ok (.istore 9, 2) := by decide +kernel
theorem d_Th_fitting_12 : decode prog_5_method_19_code 12 = .ok (.iload 9, 2) := by decide +kernel
theorem d_Th_fitting_14 : decode prog_5_method_19_code 14 = .ok (.bipush 10, 2) := by decide +kernel
theorem d_Th_fitting_16 : decode prog_5_method_19_code 16 = .ok (.if_icmp .ge 81, 3) := by decide +kernel
theorem d_Th_fitting_19 : decode prog_5_method_19_code 19 = .ok (.lload 6, 2) := by decide +kernel
theorem d_Th_fitting_21 : decode prog_5_method_19_code 21 = .ok (.lconst 0, 1) := by decide +kernel
theorem d_Th_fitting_22 : decode prog_5_method_19_code 22 = .ok (.lcmp, 1) := by decide +kernel
theorem d_Th_fitting_23 : decode prog_5_method_19_code 23 = .ok (.ifCond .eq 74, 3) := by decide +kernel
theorem d_Th_fitting_26 : decode prog_5_method_19_code 26 = .ok (.iload 8, 2) := by decide +kernel
theorem d_Th_fitting_28 : decode prog_5_method_19_code 28 = .ok (.iload 9, 2) := by decide +kernel
theorem d_Th_fitting_30 : decode prog_5_method_19_code 30 = .ok (.ishr, 1) := by decide +kernel
theorem d_Th_fitting_31 : decode prog_5_method_19_code 31 = .ok (.ifCond .eq 66, 3) := by decide +kernel
theorem d_Th_fitting_34 : decode prog_5_method_19_code 34 = .ok (.iload_n 3, 1) := by decide +kernel
theorem d_Th_fitting_35 : decode prog_5_method_19_code 35 = .ok (.i2l, 1) := by decide +kernel
theorem d_Th_fitting_36 : decode prog_5_method_19_code 36 = .ok (.iload 9, 2) := by decide +kernel
theorem d_Th_fitting_38 : decode prog_5_method_19_code 38 = .ok (.invokestatic 107, 3) := by decide +kernel
theorem d_Th_fitting_41 : decode prog_5_method_19_code 41 = .ok (.ifCond .eq 19, 3) := by decide +kernel
theorem d_Th_fitting_44 : decode prog_5_method_19_code 44 = .ok (.lload 6, 2) := by decide +kernel
theorem d_Th_fitting_46 : decode prog_5_method_19_code 46 = .ok (.aload_n 0, 1) := by decide +kernel
theorem d_Th_fitting_47 : decode prog_5_method_19_code 47 = .ok (.getfield 34, 3) := by decide +kernel
theorem d_Th_fitting_50 : decode prog_5_method_19_code 50 = .ok (.iload 9, 2) := by decide +kernel
theorem d_Th_fitting_52 : decode prog_5_method_19_code 52 = .ok (.iload 5, 2) := by decide +kernel
theorem d_Th_fitting_54 : decode prog_5_method_19_code 54 = .ok (.invokevirtual 130, 3) := by decide +kernel
theorem d_Th_fitting_57 : decode prog_5_method_19_code 57 = .ok (.land, 1) := by decide +kernel
theorem d_Th_fitting_58 : decode prog_5_method_19_code 58 = .ok (.lstore 6, 2) := by decide +kernel
theorem d_Th_fitting_60 : decode prog_5_method_19_code 60 = .ok (.iload 4, 2) := by decide +kernel
theorem d_Th_fitting_62 : decode prog_5_method_19_code 62 = .ok (.i2l, 1) := by decide +kernel
theorem d_Th_fitting_63 : decode prog_5_method_19_code 63 = .ok (.iload 9, 2) := by decide +kernel
theorem d_Th_fitting_65 : decode prog_5_method_19_code 65 = .ok (.invokestatic 107, 3) := by decide +kernel
theorem d_Th_fitting_68 : decode prog_5_method_19_code 68 = .ok (.ifCond .eq 23, 3) := by decide +kernel
theorem d_Th_fitting_71 : decode prog_5_method_19_code 71 = .ok (.lload 6, 2) := by decide +kernel
theorem d_Th_fitting_73 : decode prog_5_method_19_code 73 = .ok (.aload_n 0, 1) := by decide +kernel
theorem d_Th_fitting_74 : decode prog_5_method_19_code 74 = .ok (.getfield 34, 3) := by decide +kernel
theorem d_Th_fitting_77 : decode prog_5_method_19_code 77 = .ok (.iload 9, 2) := by decide +kernel
theorem d_Th_fitting_79 : decode prog_5_method_19_code 79 = .ok (.iload 5, 2) := by decide +kernel
theorem d_Th_fitting_81 : decode prog_5_method_19_code 81 = .ok (.invokevirtual 133, 3) := by decide +kernel
theorem d_Th_fitting_84 : decode prog_5_method_19_code 84 = .ok (.ldc2_w 105, 3) := by decide +kernel
theorem d_Th_fitting_87 : decode prog_5_method_19_code 87 = .ok (.lxor, 1) := by decide +kernel
theorem d_Th_fitting_88 : decode prog_5_method_19_code 88 = .ok (.land, 1) := by decide +kernel
theorem d_Th_fitting_89 : decode prog_5_method_19_code 89 = .ok (.lstore 6, 2) := by decide +kernel
theorem d_Th_fitting_91 : decode prog_5_method_19_code 91 = .ok (.iinc 9 1, 3) := by decide +kernel
theorem d_Th_fitting_94 : decode prog_5_method_19_code 94 = .ok (.goto (-82), 3) := by decide +kernel
theorem d_Th_fitting_97 : decode prog_5_method_19_code 97 = .ok (.lload 6, 2) := by decide +kernel
theorem d_Th_fitting_99 : decode prog_5_method_19_code 99 = .ok (.lreturn, 1) := by decide +kernel
theorem d_Th_passOn_0 : decode prog_5_method_18_code 0 = .ok (.iload 4, 2) := by decide +kernel
theorem d_Th_passOn_2 : decode prog_5_method_18_code 2 = .ok (.bipush 10, 2) := by decide +kernel
theorem d_Th_passOn_4 : decode prog_5_method_18_code 4 = .ok (.ishr, 1) := by decide +kernel
theorem d_Th_passOn_5 : decode prog_5_method_18_code 5 = .ok (.istore 5, 2) := by decide +kernel
theorem d_Th_passOn_7 : decode prog_5_method_18_code 7 = .ok (.iconst 0, 1) := by decide +kernel
theorem d_Th_passOn_8 : decode prog_5_method_18_code 8 = .ok (.istore 6, 2) := by decide +kernel
theorem d_Th_passOn_10 : decode prog_5_method_18_code 10 = .ok (.iload 6, 2) := by decide +kernel
theorem d_Th_passOn_12 : decode prog_5_method_18_code 12 = .ok (.iconst 5, 1) := by decide +kernel
theorem d_Th_passOn_13 : decode prog_5_method_18_code 13 = .ok (.if_icmp .ge 140, 3) := by decide +kernel
theorem d_Th_passOn_16 : decode prog_5_method_18_code 16 = .ok (.iload_n 3, 1) := by decide +kernel
theorem d_Th_passOn_17 : decode prog_5_method_18_code 17 = .ok (.i2l, 1) := by decide +kernel
theorem d_Th_passOn_18 : decode prog_5_method_18_code 18 = .ok (.iload 6, 2) := by decide +kernel
theorem d_Th_passOn_20 : decode prog_5_method_18_code 20 = .ok (.invokestatic 107, 3) := by decide +kernel
theorem d_Th_passOn_23 : decode prog_5_method_18_code 23 = .ok (.ifCond .ne 6, 3) := by decide +kernel
theorem d_Th_passOn_26 : decode prog_5_method_18_code 26 = .ok (.goto 121, 3) := by decide +kernel
theorem d_Th_passOn_29 : decode prog_5_method_18_code 29 = .ok (.iload 4, 2) := by decide +kernel
theorem d_Th_passOn_31 : decode prog_5_method_18_code 31 = .ok (.aload_n 0, 1) := by decide +kernel
theorem d_Th_passOn_32 : decode prog_5_method_18_code 32 = .ok (.getfield 19, 3) := by decide +kernel
theorem d_Th_passOn_35 : decode prog_5_method_18_code 35 = .ok (.iload 6, 2) := by decide +kernel
theorem d_Th_passOn_37 : decode prog_5_method_18_code 37 = .ok (.iconst 5, 1) := by decide +kernel
theorem d_Th_passOn_38 : decode prog_5_method_18_code 38 = .ok (.imul, 1) := by decide +kernel
theorem d_Th_passOn_39 : decode prog_5_method_18_code 39 = .ok (.iload_n 2, 1) := by decide +kernel
theorem d_Th_passOn_40 : decode prog_5_method_18_code 40 = .ok (.iadd, 1) := by decide +kernel
theorem d_Th_passOn_41 : decode prog_5_method_18_code 41 = .ok (.iaload, 1) := by decide +kernel
theorem d_Th_passOn_42 : decode prog_5_method_18_code 42 = .ok (.iand, 1) := by decide +kernel
theorem d_Th_passOn_43 : decode prog_5_method_18_code 43 = .ok (.istore 7, 2) := by decide +kernel
theorem d_Th_passOn_45 : decode prog_5_method_18_code 45 = .ok (.iload 5, 2) := by decide +kernel
theorem d_Th_passOn_47 : decode prog_5_method_18_code 47 = .ok (.aload_n 0, 1) := by decide +kernel
theorem d_Th_passOn_48 : decode prog_5_method_18_code 48 = .ok (.getfield 19, 3) := by decide +kernel
theorem d_Th_passOn_51 : decode prog_5_method_18_code 51 = .ok (.iload_n 2, 1) := by decide +kernel
theorem d_Th_passOn_52 : decode prog_5_method_18_code 52 = .ok (.iconst 5, 1) := by decide +kernel
theorem d_Th_passOn_53 : decode prog_5_method_18_code 53 = .ok (.imul, 1) := by decide +kernel
theorem d_Th_passOn_54 : decode prog_5_method_18_code 54 = .ok (.iload 6, 2) := by decide +kernel
theorem d_Th_passOn_56 : decode prog_5_method_18_code 56 = .ok (.iadd, 1) := by decide +kernel
theorem d_Th_passOn_57 : decode prog_5_method_18_code 57 = .ok (.iaload, 1) := by decide +kernel
theorem d_Th_passOn_58 : decode prog_5_method_18_code 58 = .ok (.iand, 1) := by decide +kernel
theorem d_Th_passOn_59 : decode prog_5_method_18_code 59 = .ok (.istore 8, 2) := by decide +kernel
theorem d_Th_passOn_61 : decode prog_5_method_18_code 61 = .ok (.iload_n 1, 1) := by decide +kernel
theorem d_Th_passOn_62 : decode prog_5_method_18_code 62 = .ok (.bipush 80, 2) := by decide +kernel
theorem d_Th_passOn_64 : decode prog_5_method_18_code 64 = .ok (.imul, 1) := by decide +kernel
theorem d_Th_passOn_65 : decode prog_5_method_18_code 65 = .ok (.iload 6, 2) := by decide +kernel
theorem d_Th_passOn_67 : decode prog_5_method_18_code 67 = .ok (.bipush 16, 2) := by decide +kernel
theorem d_Th_passOn_69 : decode prog_5_method_18_code 69 = .ok (.imul, 1) := by decide +kernel
theorem d_Th_passOn_70 : decode prog_5_method_18_code 70 = .ok (.iadd, 1) := by decide +kernel
theorem d_Th_passOn_71 : decode prog_5_method_18_code 71 = .ok (.istore 9, 2) := by decide +kernel
theorem d_Th_passOn_73 : decode prog_5_method_18_code 73 = .ok (.lconst 0, 1) := by decide +kernel
theorem d_Th_passOn_74 : decode prog_5_method_18_code 74 = .ok (.lstore 10, 2) := by decide +kernel
theorem d_Th_passOn_76 : decode prog_5_method_18_code 76 = .ok (.iconst 0, 1) := by decide +kernel
theorem d_Th_passOn_77 : decode prog_5_method_18_code 77 = .ok (.istore 12, 2) := by decide +kernel
theorem d_Th_passOn_79 : decode prog_5_method_18_code 79 = .ok (.iload 12, 2) := by decide +kernel
theorem d_Th_passOn_81 : decode prog_5_method_18_code 81 = .ok (.aload_n 0, 1) := by decide +kernel
theorem d_Th_passOn_82 : decode prog_5_method_18_code 82 = .ok (.getfield 102, 3) := by decide +kernel
theorem d_Th_passOn_85 : decode prog_5_method_18_code 85 = .ok (.if_icmp .ge 53, 3) := by decide +kernel
theorem d_Th_passOn_88 : decode prog_5_method_18_code 88 = .ok (.aload_n 0, 1) := by decide +kernel
theorem d_Th_passOn_89 : decode prog_5_method_18_code 89 = .ok (.aload_n 0, 1) := by decide +kernel
theorem d_Th_passOn_90 : decode prog_5_method_18_code 90 = .ok (.getfield 22, 3) := by decide +kernel
theorem d_Th_passOn_93 : decode prog_5_method_18_code 93 = .ok (.iload 9, 2) := by decide +kernel
theorem d_Th_passOn_95 : decode prog_5_method_18_code 95 = .ok (.iload 12, 2) := by decide +kernel
theorem d_Th_passOn_97 : decode prog_5_method_18_code 97 = .ok (.iadd, 1) := by decide +kernel
theorem d_Th_passOn_98 : decode prog_5_method_18_code 98 = .ok (.laload, 1) := by decide +kernel
theorem d_Th_passOn_99 : decode prog_5_method_18_code 99 = .ok (.iload 7, 2) := by decide +kernel
theorem d_Th_passOn_101 : decode prog_5_method_18_code 101 = .ok (.iload 8, 2) := by decide +kernel
theorem d_Th_passOn_103 : decode prog_5_method_18_code 103 = .ok (.iload 12, 2) := by decide +kernel
theorem d_Th_passOn_105 : decode prog_5_method_18_code 105 = .ok (.invokevirtual 169, 3) := by decide +kernel
theorem d_Th_passOn_108 : decode prog_5_method_18_code 108 = .ok (.lstore 13, 2) := by decide +kernel
theorem d_Th_passOn_110 : decode prog_5_method_18_code 110 = .ok (.aload_n 0, 1) := by decide +kernel
theorem d_Th_passOn_111 : decode prog_5_method_18_code 111 = .ok (.getfield 22, 3) := by decide +kernel
theorem d_Th_passOn_114 : decode prog_5_method_18_code 114 = .ok (.iload 9, 2) := by decide +kernel
theorem d_Th_passOn_116 : decode prog_5_method_18_code 116 = .ok (.bipush 80, 2) := by decide +kernel
theorem d_Th_passOn_118 : decode prog_5_method_18_code 118 = .ok (.iadd, 1) := by decide +kernel
theorem d_Th_passOn_119 : decode prog_5_method_18_code 119 = .ok (.iload 12, 2) := by decide +kernel
theorem d_Th_passOn_121 : decode prog_5_method_18_code 121 = .ok (.iadd, 1) := by decide +kernel
theorem d_Th_passOn_122 : decode prog_5_method_18_code 122 = .ok (.lload 13, 2) := by decide +kernel
theorem d_Th_passOn_124 : decode prog_5_method_18_code 124 = .ok (.lastore, 1) := by decide +kernel
theorem d_Th_passOn_125 : decode prog_5_method_18_code 125 = .ok (.lload 10, 2) := by decide +kernel
theorem d_Th_passOn_127 : decode prog_5_method_18_code 127 = .ok (.lload 13, 2) := by decide +kernel
theorem d_Th_passOn_129 : decode prog_5_method_18_code 129 = .ok (.lor, 1) := by decide +kernel
theorem d_Th_passOn_130 : decode prog_5_method_18_code 130 = .ok (.lstore 10, 2) := by decide +kernel
theorem d_Th_passOn_132 : decode prog_5_method_18_code 132 = .ok (.iinc 12 1, 3) := by decide +kernel
theorem d_Th_passOn_135 : decode prog_5_method_18_code 135 = .ok (.goto (-56), 3) := by decide +kernel
theorem d_Th_passOn_138 : decode prog_5_method_18_code 138 = .ok (.lload 10, 2) := by decide +kernel
theorem d_Th_passOn_140 : decode prog_5_method_18_code 140 = .ok (.lconst 0, 1) := by decide +kernel
theorem d_Th_passOn_141 : decode prog_5_method_18_code 141 = .ok (.lcmp, 1) := by decide +kernel
theorem d_Th_passOn_142 : decode prog_5_method_18_code 142 = .ok (.ifCond .ne 5, 3) := by decide +kernel
theorem d_Th_passOn_145 : decode prog_5_method_18_code 145 = .ok (.iconst 0, 1) := by decide +kernel
theorem d_Th_passOn_146 : decode prog_5_method_18_code 146 = .ok (.ireturn, 1) := by decide +kernel
theorem d_Th_passOn_147 : decode prog_5_method_18_code 147 = .ok (.iinc 6 1, 3) := by decide +kernel
theorem d_Th_passOn_150 : decode prog_5_method_18_code 150 = .ok (.goto (-140), 3) := by decide +kernel
theorem d_Th_passOn_153 : decode prog_5_method_18_code 153 = .ok (.iconst 1, 1) := by decide +kernel
theorem d_Th_passOn_154 : decode prog_5_method_18_code 154 = .ok (.ireturn, 1) := by decide +kernel
theorem d_Th_canExtend_0 : decode prog_5_method_14_code 0 = .ok (.iload_n 2, 1) := by decide +kernel
theorem d_Th_canExtend_1 : decode prog_5_method_14_code 1 = .ok (.invokestatic 142, 3) := by decide +kernel
theorem d_Th_canExtend_4 : decode prog_5_method_14_code 4 = .ok (.iconst 2, 1) := by decide +kernel
theorem d_Th_canExtend_5 : decode prog_5_method_14_code 5 = .ok (.if_icmp .ge 5, 3) := by decide +kernel
theorem d_Th_canExtend_8 : decode prog_5_method_14_code 8 = .ok (.iconst 1, 1) := by decide +kernel
theorem d_Th_canExtend_9 : decode prog_5_method_14_code 9 = .ok (.ireturn, 1) := by decide +kernel
theorem d_Th_canExtend_10 : decode prog_5_method_14_code 10 = .ok (.iload_n 1, 1) := by decide +kernel
theorem d_Th_canExtend_11 : decode prog_5_method_14_code 11 = .ok (.iconst 1, 1) := by decide +kernel
theorem d_Th_canExtend_12 : decode prog_5_method_14_code 12 = .ok (.iadd, 1) := by decide +kernel
theorem d_Th_canExtend_13 : decode prog_5_method_14_code 13 = .ok (.iconst 5, 1) := by decide +kernel
theorem d_Th_canExtend_14 : decode prog_5_method_14_code 14 = .ok (.if_icmp .lt 5, 3) := by decide +kernel
theorem d_Th_canExtend_17 : decode prog_5_method_14_code 17 = .ok (.iconst 0, 1) := by decide +kernel
theorem d_Th_canExtend_18 : decode prog_5_method_14_code 18 = .ok (.ireturn, 1) := by decide +kernel
theorem d_Th_canExtend_19 : decode prog_5_method_14_code 19 = .ok (.aload_n 0, 1) := by decide +kernel
theorem d_Th_canExtend_20 : decode prog_5_method_14_code 20 = .ok (.iload_n 1, 1) := by decide +kernel
theorem d_Th_canExtend_21 : decode prog_5_method_14_code 21 = .ok (.iload_n 2, 1) := by decide +kernel
theorem d_Th_canExtend_22 : decode prog_5_method_14_code 22 = .ok (.invokevirtual 146, 3) := by decide +kernel
theorem d_Th_canExtend_25 : decode prog_5_method_14_code 25 = .ok (.istore_n 3, 1) := by decide +kernel
theorem d_Th_canExtend_26 : decode prog_5_method_14_code 26 = .ok (.iload_n 2, 1) := by decide +kernel
theorem d_Th_canExtend_27 : decode prog_5_method_14_code 27 = .ok (.iconst 1, 1) := by decide +kernel
theorem d_Th_canExtend_28 : decode prog_5_method_14_code 28 = .ok (.iload_n 3, 1) := by decide +kernel
theorem d_Th_canExtend_29 : decode prog_5_method_14_code 29 = .ok (.ishl, 1) := by decide +kernel
theorem d_Th_canExtend_30 : decode prog_5_method_14_code 30 = .ok (.iconst (-1), 1) := by decide +kernel
theorem d_Th_canExtend_31 : decode prog_5_method_14_code 31 = .ok (.ixor, 1) := by decide +kernel
theorem d_Th_canExtend_32 : decode prog_5_method_14_code 32 = .ok (.iand, 1) := by decide +kernel
theorem d_Th_canExtend_33 : decode prog_5_method_14_code 33 = .ok (.istore 4, 2) := by decide +kernel
theorem d_Th_canExtend_35 : decode prog_5_method_14_code 35 = .ok (.aload_n 0, 1) := by decide +kernel
theorem d_Th_canExtend_36 : decode prog_5_method_14_code 36 = .ok (.iload_n 1, 1) := by decide +kernel
theorem d_Th_canExtend_37 : decode prog_5_method_14_code 37 = .ok (.iload_n 3, 1) := by decide +kernel
theorem d_Th_canExtend_38 : decode prog_5_method_14_code 38 = .ok (.iload 4, 2) := by decide +kernel
theorem d_Th_canExtend_40 : decode prog_5_method_14_code 40 = .ok (.invokevirtual 149, 3) := by decide +kernel
theorem d_Th_canExtend_43 : decode prog_5_method_14_code 43 = .ok (.istore 5, 2) := by decide +kernel
theorem d_Th_canExtend_45 : decode prog_5_method_14_code 45 = .ok (.iconst 0, 1) := by decide +kernel
theorem d_Th_canExtend_46 : decode prog_5_method_14_code 46 = .ok (.istore 6, 2) := by decide +kernel
theorem d_Th_canExtend_48 : decode prog_5_method_14_code 48 = .ok (.iload 6, 2) := by decide +kernel
theorem d_Th_canExtend_50 : decode prog_5_method_14_code 50 = .ok (.iload 5, 2) := by decide +kernel
theorem d_Th_canExtend_52 : decode prog_5_method_14_code 52 = .ok (.if_icmp .ge 51, 3) := by decide +kernel
theorem d_Th_canExtend_55 : decode prog_5_method_14_code 55 = .ok (.aload_n 0, 1) := by decide +kernel
theorem d_Th_canExtend_56 : decode prog_5_method_14_code 56 = .ok (.getfield 25, 3) := by decide +kernel
theorem d_Th_canExtend_59 : decode prog_5_method_14_code 59 = .ok (.iload_n 1, 1) := by decide +kernel
theorem d_Th_canExtend_60 : decode prog_5_method_14_code 60 = .ok (.sipush 1024, 3) := by decide +kernel
theorem d_Th_canExtend_63 : decode prog_5_method_14_code 63 = .ok (.imul, 1) := by decide +kernel
theorem d_Th_canExtend_64 : decode prog_5_method_14_code 64 = .ok (.iload 6, 2) := by decide +kernel
theorem d_Th_canExtend_66 : decode prog_5_method_14_code 66 = .ok (.iadd, 1) := by decide +kernel
theorem d_Th_canExtend_67 : decode prog_5_method_14_code 67 = .ok (.iaload, 1) := by decide +kernel
theorem d_Th_canExtend_68 : decode prog_5_method_14_code 68 = .ok (.istore 7, 2) := by decide +kernel
theorem d_Th_canExtend_70 : decode prog_5_method_14_code 70 = .ok (.aload_n 0, 1) := by decide +kernel
theorem d_Th_canExtend_71 : decode prog_5_method_14_code 71 = .ok (.iload_n 1, 1) := by decide +kernel
theorem d_Th_canExtend_72 : decode prog_5_method_14_code 72 = .ok (.iload_n 3, 1) := by decide +kernel
theorem d_Th_canExtend_73 : decode prog_5_method_14_code 73 = .ok (.iload 4, 2) := by decide +kernel
theorem d_Th_canExtend_75 : decode prog_5_method_14_code 75 = .ok (.iload 7, 2) := by decide +kernel
theorem d_Th_canExtend_77 : decode prog_5_method_14_code 77 = .ok (.invokevirtual 153, 3) := by decide +kernel
theorem d_Th_canExtend_80 : decode prog_5_method_14_code 80 = .ok (.ifCond .eq 17, 3) := by decide +kernel
theorem d_Th_canExtend_83 : decode prog_5_method_14_code 83 = .ok (.aload_n 0, 1) := by decide +kernel
theorem d_Th_canExtend_84 : decode prog_5_method_14_code 84 = .ok (.iload_n 1, 1) := by decide +kernel
theorem d_Th_canExtend_85 : decode prog_5_method_14_code 85 = .ok (.iconst 1, 1) := by decide +kernel
theorem d_Th_canExtend_86 : decode prog_5_method_14_code 86 = .ok (.iadd, 1) := by decide +kernel
theorem d_Th_canExtend_87 : decode prog_5_method_14_code 87 = .ok (.iload 4, 2) := by decide +kernel
theorem d_Th_canExtend_89 : decode prog_5_method_14_code 89 = .ok (.invokevirtual 81, 3) := by decide +kernel
theorem d_Th_canExtend_92 : decode prog_5_method_14_code 92 = .ok (.ifCond .eq 5, 3) := by decide +kernel
theorem d_Th_canExtend_95 : decode prog_5_method_14_code 95 = .ok (.iconst 1, 1) := by decide +kernel
theorem d_Th_canExtend_96 : decode prog_5_method_14_code 96 = .ok (.ireturn, 1) := by decide +kernel
theorem d_Th_canExtend_97 : decode prog_5_method_14_code 97 = .ok (.iinc 6 1, 3) := by decide +kernel
theorem d_Th_canExtend_100 : decode prog_5_method_14_code 100 = .ok (.goto (-52), 3) := by decide +kernel
theorem d_Th_canExtend_103 : decode prog_5_method_14_code 103 = .ok (.iconst 0, 1) := by decide +kernel
theorem d_Th_canExtend_104 : decode prog_5_method_14_code 104 = .ok (.ireturn, 1) := by decide +kernel
theorem d_Th_firstLeft_0 : decode prog_5_method_25_code 0 = .ok (.iconst 0, 1) := by decide +kernel
theorem d_Th_firstLeft_1 : decode prog_5_method_25_code 1 = .ok (.istore_n 2, 1) := by decide +kernel
theorem d_Th_firstLeft_2 : decode prog_5_method_25_code 2 = .ok (.iload_n 2, 1) := by decide +kernel
theorem d_Th_firstLeft_3 : decode prog_5_method_25_code 3 = .ok (.aload_n 0, 1) := by decide +kernel
theorem d_Th_firstLeft_4 : decode prog_5_method_25_code 4 = .ok (.getfield 102, 3) := by decide +kernel
theorem d_Th_firstLeft_7 : decode prog_5_method_25_code 7 = .ok (.if_icmp .ge 37, 3) := by decide +kernel
theorem d_Th_firstLeft_10 : decode prog_5_method_25_code 10 = .ok (.aload_n 0, 1) := by decide +kernel
theorem d_Th_firstLeft_11 : decode prog_5_method_25_code 11 = .ok (.getfield 22, 3) := by decide +kernel
theorem d_Th_firstLeft_14 : decode prog_5_method_25_code 14 = .ok (.iload_n 1, 1) := by decide +kernel
theorem d_Th_firstLeft_15 : decode prog_5_method_25_code 15 = .ok (.bipush 16, 2) := by decide +kernel
theorem d_Th_firstLeft_17 : decode prog_5_method_25_code 17 = .ok (.imul, 1) := by decide +kernel
theorem d_Th_firstLeft_18 : decode prog_5_method_25_code 18 = .ok (.iload_n 2, 1) := by decide +kernel
theorem d_Th_firstLeft_19 : decode prog_5_method_25_code 19 = .ok (.iadd, 1) := by decide +kernel
theorem d_Th_firstLeft_20 : decode prog_5_method_25_code 20 = .ok (.laload, 1) := by decide +kernel
theorem d_Th_firstLeft_21 : decode prog_5_method_25_code 21 = .ok (.lstore_n 3, 1) := by decide +kernel
theorem d_Th_firstLeft_22 : decode prog_5_method_25_code 22 = .ok (.lload_n 3, 1) := by decide +kernel
theorem d_Th_firstLeft_23 : decode prog_5_method_25_code 23 = .ok (.lconst 0, 1) := by decide +kernel
theorem d_Th_firstLeft_24 : decode prog_5_method_25_code 24 = .ok (.lcmp, 1) := by decide +kernel
theorem d_Th_firstLeft_25 : decode prog_5_method_25_code 25 = .ok (.ifCond .eq 13, 3) := by decide +kernel
theorem d_Th_firstLeft_28 : decode prog_5_method_25_code 28 = .ok (.iload_n 2, 1) := by decide +kernel
theorem d_Th_firstLeft_29 : decode prog_5_method_25_code 29 = .ok (.bipush 64, 2) := by decide +kernel
theorem d_Th_firstLeft_31 : decode prog_5_method_25_code 31 = .ok (.imul, 1) := by decide +kernel
theorem d_Th_firstLeft_32 : decode prog_5_method_25_code 32 = .ok (.lload_n 3, 1) := by decide +kernel
theorem d_Th_firstLeft_33 : decode prog_5_method_25_code 33 = .ok (.invokestatic 160, 3) := by decide +kernel
theorem d_Th_firstLeft_36 : decode prog_5_method_25_code 36 = .ok (.iadd, 1) := by decide +kernel
theorem d_Th_firstLeft_37 : decode prog_5_method_25_code 37 = .ok (.ireturn, 1) := by decide +kernel
theorem d_Th_firstLeft_38 : decode prog_5_method_25_code 38 = .ok (.iinc 2 1, 3) := by decide +kernel
theorem d_Th_firstLeft_41 : decode prog_5_method_25_code 41 = .ok (.goto (-39), 3) := by decide +kernel
theorem d_Th_firstLeft_44 : decode prog_5_method_25_code 44 = .ok (.iconst 0, 1) := by decide +kernel
theorem d_Th_firstLeft_45 : decode prog_5_method_25_code 45 = .ok (.ireturn, 1) := by decide +kernel
theorem d_Th_keepSpare_0 : decode prog_5_method_23_code 0 = .ok (.aload_n 0, 1) := by decide +kernel
theorem d_Th_keepSpare_1 : decode prog_5_method_23_code 1 = .ok (.getfield 22, 3) := by decide +kernel
theorem d_Th_keepSpare_4 : decode prog_5_method_23_code 4 = .ok (.iload_n 1, 1) := by decide +kernel
theorem d_Th_keepSpare_5 : decode prog_5_method_23_code 5 = .ok (.bipush 16, 2) := by decide +kernel
theorem d_Th_keepSpare_7 : decode prog_5_method_23_code 7 = .ok (.imul, 1) := by decide +kernel
theorem d_Th_keepSpare_8 : decode prog_5_method_23_code 8 = .ok (.aload_n 0, 1) := by decide +kernel
theorem d_Th_keepSpare_9 : decode prog_5_method_23_code 9 = .ok (.getfield 28, 3) := by decide +kernel
theorem d_Th_keepSpare_12 : decode prog_5_method_23_code 12 = .ok (.iconst 0, 1) := by decide +kernel
theorem d_Th_keepSpare_13 : decode prog_5_method_23_code 13 = .ok (.bipush 16, 2) := by decide +kernel
theorem d_Th_keepSpare_15 : decode prog_5_method_23_code 15 = .ok (.invokestatic 186, 3) := by decide +kernel
theorem d_Th_keepSpare_18 : decode prog_5_method_23_code 18 = .ok (.return_, 1) := by decide +kernel
theorem d_Th_takeSpare_0 : decode prog_5_method_24_code 0 = .ok (.aload_n 0, 1) := by decide +kernel
theorem d_Th_takeSpare_1 : decode prog_5_method_24_code 1 = .ok (.getfield 28, 3) := by decide +kernel
theorem d_Th_takeSpare_4 : decode prog_5_method_24_code 4 = .ok (.iconst 0, 1) := by decide +kernel
theorem d_Th_takeSpare_5 : decode prog_5_method_24_code 5 = .ok (.aload_n 0, 1) := by decide +kernel
theorem d_Th_takeSpare_6 : decode prog_5_method_24_code 6 = .ok (.getfield 22, 3) := by decide +kernel
theorem d_Th_takeSpare_9 : decode prog_5_method_24_code 9 = .ok (.iload_n 1, 1) := by decide +kernel
theorem d_Th_takeSpare_10 : decode prog_5_method_24_code 10 = .ok (.bipush 16, 2) := by decide +kernel
theorem d_Th_takeSpare_12 : decode prog_5_method_24_code 12 = .ok (.imul, 1) := by decide +kernel
theorem d_Th_takeSpare_13 : decode prog_5_method_24_code 13 = .ok (.bipush 16, 2) := by decide +kernel
theorem d_Th_takeSpare_15 : decode prog_5_method_24_code 15 = .ok (.invokestatic 186, 3) := by decide +kernel
theorem d_Th_takeSpare_18 : decode prog_5_method_24_code 18 = .ok (.return_, 1) := by decide +kernel
theorem d_Th_leaveFirst_0 : decode prog_5_method_20_code 0 = .ok (.aload_n 0, 1) := by decide +kernel
theorem d_Th_leaveFirst_1 : decode prog_5_method_20_code 1 = .ok (.iload_n 1, 1) := by decide +kernel
theorem d_Th_leaveFirst_2 : decode prog_5_method_20_code 2 = .ok (.invokevirtual 95, 3) := by decide +kernel
theorem d_Th_leaveFirst_5 : decode prog_5_method_20_code 5 = .ok (.istore_n 2, 1) := by decide +kernel
theorem d_Th_leaveFirst_6 : decode prog_5_method_20_code 6 = .ok (.aload_n 0, 1) := by decide +kernel
theorem d_Th_leaveFirst_7 : decode prog_5_method_20_code 7 = .ok (.iload_n 1, 1) := by decide +kernel
theorem d_Th_leaveFirst_8 : decode prog_5_method_20_code 8 = .ok (.invokevirtual 173, 3) := by decide +kernel
theorem d_Th_leaveFirst_11 : decode prog_5_method_20_code 11 = .ok (.iconst 0, 1) := by decide +kernel
theorem d_Th_leaveFirst_12 : decode prog_5_method_20_code 12 = .ok (.istore_n 3, 1) := by decide +kernel
theorem d_Th_leaveFirst_13 : decode prog_5_method_20_code 13 = .ok (.iload_n 3, 1) := by decide +kernel
theorem d_Th_leaveFirst_14 : decode prog_5_method_20_code 14 = .ok (.aload_n 0, 1) := by decide +kernel
theorem d_Th_leaveFirst_15 : decode prog_5_method_20_code 15 = .ok (.getfield 102, 3) := by decide +kernel
theorem d_Th_leaveFirst_18 : decode prog_5_method_20_code 18 = .ok (.if_icmp .ge 21, 3) := by decide +kernel
theorem d_Th_leaveFirst_21 : decode prog_5_method_20_code 21 = .ok (.aload_n 0, 1) := by decide +kernel
theorem d_Th_leaveFirst_22 : decode prog_5_method_20_code 22 = .ok (.getfield 22, 3) := by decide +kernel
theorem d_Th_leaveFirst_25 : decode prog_5_method_20_code 25 = .ok (.iload_n 1, 1) := by decide +kernel
theorem d_Th_leaveFirst_26 : decode prog_5_method_20_code 26 = .ok (.bipush 16, 2) := by decide +kernel
theorem d_Th_leaveFirst_28 : decode prog_5_method_20_code 28 = .ok (.imul, 1) := by decide +kernel
theorem d_Th_leaveFirst_29 : decode prog_5_method_20_code 29 = .ok (.iload_n 3, 1) := by decide +kernel
theorem d_Th_leaveFirst_30 : decode prog_5_method_20_code 30 = .ok (.iadd, 1) := by decide +kernel
theorem d_Th_leaveFirst_31 : decode prog_5_method_20_code 31 = .ok (.lconst 0, 1) := by decide +kernel
theorem d_Th_leaveFirst_32 : decode prog_5_method_20_code 32 = .ok (.lastore, 1) := by decide +kernel
theorem d_Th_leaveFirst_33 : decode prog_5_method_20_code 33 = .ok (.iinc 3 1, 3) := by decide +kernel
theorem d_Th_leaveFirst_36 : decode prog_5_method_20_code 36 = .ok (.goto (-23), 3) := by decide +kernel
theorem d_Th_leaveFirst_39 : decode prog_5_method_20_code 39 = .ok (.iload_n 1, 1) := by decide +kernel
theorem d_Th_leaveFirst_40 : decode prog_5_method_20_code 40 = .ok (.bipush 16, 2) := by decide +kernel
theorem d_Th_leaveFirst_42 : decode prog_5_method_20_code 42 = .ok (.imul, 1) := by decide +kernel
theorem d_Th_leaveFirst_43 : decode prog_5_method_20_code 43 = .ok (.iload_n 2, 1) := by decide +kernel
theorem d_Th_leaveFirst_44 : decode prog_5_method_20_code 44 = .ok (.bipush 64, 2) := by decide +kernel
theorem d_Th_leaveFirst_46 : decode prog_5_method_20_code 46 = .ok (.idiv, 1) := by decide +kernel
theorem d_Th_leaveFirst_47 : decode prog_5_method_20_code 47 = .ok (.iadd, 1) := by decide +kernel
theorem d_Th_leaveFirst_48 : decode prog_5_method_20_code 48 = .ok (.istore_n 3, 1) := by decide +kernel
theorem d_Th_leaveFirst_49 : decode prog_5_method_20_code 49 = .ok (.lconst 1, 1) := by decide +kernel
theorem d_Th_leaveFirst_50 : decode prog_5_method_20_code 50 = .ok (.iload_n 2, 1) := by decide +kernel
theorem d_Th_leaveFirst_51 : decode prog_5_method_20_code 51 = .ok (.bipush 64, 2) := by decide +kernel
theorem d_Th_leaveFirst_53 : decode prog_5_method_20_code 53 = .ok (.irem, 1) := by decide +kernel
theorem d_Th_leaveFirst_54 : decode prog_5_method_20_code 54 = .ok (.lshl, 1) := by decide +kernel
theorem d_Th_leaveFirst_55 : decode prog_5_method_20_code 55 = .ok (.lstore 4, 2) := by decide +kernel
theorem d_Th_leaveFirst_57 : decode prog_5_method_20_code 57 = .ok (.aload_n 0, 1) := by decide +kernel
theorem d_Th_leaveFirst_58 : decode prog_5_method_20_code 58 = .ok (.getfield 22, 3) := by decide +kernel
theorem d_Th_leaveFirst_61 : decode prog_5_method_20_code 61 = .ok (.iload_n 3, 1) := by decide +kernel
theorem d_Th_leaveFirst_62 : decode prog_5_method_20_code 62 = .ok (.lload 4, 2) := by decide +kernel
theorem d_Th_leaveFirst_64 : decode prog_5_method_20_code 64 = .ok (.lastore, 1) := by decide +kernel
theorem d_Th_leaveFirst_65 : decode prog_5_method_20_code 65 = .ok (.aload_n 0, 1) := by decide +kernel
theorem d_Th_leaveFirst_66 : decode prog_5_method_20_code 66 = .ok (.iconst 0, 1) := by decide +kernel
theorem d_Th_leaveFirst_67 : decode prog_5_method_20_code 67 = .ok (.bipush 31, 2) := by decide +kernel
theorem d_Th_leaveFirst_69 : decode prog_5_method_20_code 69 = .ok (.invokevirtual 81, 3) := by decide +kernel
theorem d_Th_leaveFirst_72 : decode prog_5_method_20_code 72 = .ok (.ifCond .eq 5, 3) := by decide +kernel
theorem d_Th_leaveFirst_75 : decode prog_5_method_20_code 75 = .ok (.iconst 1, 1) := by decide +kernel
theorem d_Th_leaveFirst_76 : decode prog_5_method_20_code 76 = .ok (.ireturn, 1) := by decide +kernel
theorem d_Th_leaveFirst_77 : decode prog_5_method_20_code 77 = .ok (.aload_n 0, 1) := by decide +kernel
theorem d_Th_leaveFirst_78 : decode prog_5_method_20_code 78 = .ok (.iload_n 1, 1) := by decide +kernel
theorem d_Th_leaveFirst_79 : decode prog_5_method_20_code 79 = .ok (.invokevirtual 176, 3) := by decide +kernel
theorem d_Th_leaveFirst_82 : decode prog_5_method_20_code 82 = .ok (.aload_n 0, 1) := by decide +kernel
theorem d_Th_leaveFirst_83 : decode prog_5_method_20_code 83 = .ok (.getfield 22, 3) := by decide +kernel
theorem d_Th_leaveFirst_86 : decode prog_5_method_20_code 86 = .ok (.iload_n 3, 1) := by decide +kernel
theorem d_Th_leaveFirst_87 : decode prog_5_method_20_code 87 = .ok (.dup2, 1) := by decide +kernel
theorem d_Th_leaveFirst_88 : decode prog_5_method_20_code 88 = .ok (.laload, 1) := by decide +kernel
theorem d_Th_leaveFirst_89 : decode prog_5_method_20_code 89 = .ok (.lload 4, 2) := by decide +kernel
theorem d_Th_leaveFirst_91 : decode prog_5_method_20_code 91 = .ok (.ldc2_w 105, 3) := by decide +kernel
theorem d_Th_leaveFirst_94 : decode prog_5_method_20_code 94 = .ok (.lxor, 1) := by decide +kernel
theorem d_Th_leaveFirst_95 : decode prog_5_method_20_code 95 = .ok (.land, 1) := by decide +kernel
theorem d_Th_leaveFirst_96 : decode prog_5_method_20_code 96 = .ok (.lastore, 1) := by decide +kernel
theorem d_Th_leaveFirst_97 : decode prog_5_method_20_code 97 = .ok (.iconst 0, 1) := by decide +kernel
theorem d_Th_leaveFirst_98 : decode prog_5_method_20_code 98 = .ok (.ireturn, 1) := by decide +kernel
noncomputable def bk_Th_findDemands_0 : List Int32 → List Int64 → tq_S → Option tq_C
  | [x1, x2, x3], [], σ => some (9, [x1, x2, x3, 0, 0, 0], [], σ)
  | _, _, _ => none
noncomputable def bk_Th_findDemands_9 : List Int32 → List Int64 → tq_S → Option tq_C
  | [x1, x2, x3, x4, x5, x6], [], σ => if 5 ≤ x6 then tq_lj ((x1 * 80) + (x2 * 16)) (fun v2 => some (80, [x1, x4, x5, v2, 0, 0], [], σ)) else tq_ob (tq_fI st_Tn_hasBit (0, [x6], [x3.toInt64], σ)) (fun r4 σ5 => if r4 = 0 then tq_lj (x6 + 1) (fun v7 => some (9, [x1, x2, x3, x4, x5, v7], [], σ5)) else tq_gd ((x2 * 5) + x6) 25 (tq_lj (x4 ||| (ia σ5 14 ((x2 * 5) + x6))) (fun v9 => tq_gd ((x6 * 5) + x2) 25 (tq_lj (x5 ||| (ia σ5 14 ((x6 * 5) + x2))) (fun v11 => tq_lj (x6 + 1) (fun v12 => some (9, [x1, x2, x3, v9, v11, v12], [], σ5)))))))
  | _, _, _ => none
noncomputable def bk_Th_findDemands_80 : List Int32 → List Int64 → tq_S → Option tq_C
  | [x1, x4, x5, x6, x7, x8], [], σ => if (σ.2.2 9) ≤ x8 then some (tq_rt, [x7], [], σ) else tq_gd (x6 + x8) 400 (tq_lj (la σ 5 (x6 + x8)) (fun v15 => tq_ob (tq_fI st_Jl_bitCount (0, [], [v15], σ)) (fun r17 σ18 => some (108, [x1, x4, x5, x6, x7, x8, r17], [v15], σ18))))
  | _, _, _ => none
noncomputable def bk_Th_findDemands_108 : List Int32 → List Int64 → tq_S → Option tq_C
  | [x1, x4, x5, x6, x7, x8, x11], [y9], σ => if x11 ≤ 0 then tq_lj (x8 + 1) (fun v20 => some (80, [x1, x4, x5, x6, x7, v20], [], σ)) else tq_ob (tq_fI st_Tn_lowestBit (0, [], [y9], σ)) (fun r22 σ23 => tq_lj ((x8 * 64) + r22) (fun v24 => tq_ob (tq_fI st_Co_inners (0, [v24], [], σ23)) (fun r26 σ27 => tq_lj (((x4 &&& (v24 ^^^ (-1))) <<< (10 &&& 31)) ||| (x5 &&& r26)) (fun v28 => tq_ob (tq_fI st_Th_addDemand (0, [(x1 * 1024), x7, v28], [], σ27)) (fun r30 σ31 => tq_lj (y9 &&& (y9 - 1)) (fun v32 => tq_lj (x11 + (-1)) (fun v33 => some (108, [x1, x4, x5, x6, r30, x8, v33], [v32], σ31))))))))
  | _, _, _ => none
noncomputable def st_Th_findDemands (c : tq_C) : Option tq_C := if c.1 = 0 then bk_Th_findDemands_0 c.2.1 c.2.2.1 c.2.2.2 else if c.1 = 9 then bk_Th_findDemands_9 c.2.1 c.2.2.1 c.2.2.2 else if c.1 = 80 then bk_Th_findDemands_80 c.2.1 c.2.2.1 c.2.2.2 else if c.1 = 108 then bk_Th_findDemands_108 c.2.1 c.2.2.1 c.2.2.2 else none
set_option maxHeartbeats 40000000 in
set_option maxRecDepth 100000 in
theorem c_Th_findDemands (l : Launch) (dC : Nat → ClassId) (dI : Nat → Nat → Nat) (cI cL cZ : ClassId) (ad : Nat → Nat) (tt : Nat) (sz : Nat) (σ : tq_S) (a1 : Int32) (a2 : Int32) (a3 : Int32) (r : Int32) (σ' : tq_S) (hf : tq_fI st_Th_findDemands (0, [a1, a2, a3], [], σ) = some (r, σ')) : Met l y_Th_findDemands w_Th_findDemands ({ frames := 2, cells := 0, slots := 0, locals := 42 } : Room) (va_Pc [.ref (ad 4), .int a1, .int a2, .int a3] (tq_B dC dI cI cL cZ tt (wo cI cL cZ ad σ) sz)) (va_Qi (fun (r' : Int32) (u : tq_S) => r' = r ∧ u = σ') (tq_E dC dI cI cL cZ (wo cI cL cZ ad) (va_A (wo cI cL cZ ad σ) sz)) (va_A (wo cI cL cZ ad σ) sz)) 0 0 (va_A (wo cI cL cZ ad σ) sz) := by
  obtain ⟨n0, h0⟩ := tq_fI_to hf
  refine Met.ofW (cc := prog_5_method_16_code) (maxL := 14) (ret := (some .int)) (by decide) rfl ?_
  intro p e s m args below meth c s₁ B hml hv
  obtain ⟨rfl, hsz, hP, hK, hD0, hZ, hN⟩ := hv
  have hx := B.exec
  have hb := B.bytes
  have hr := B.returns
  have hts : ∀ w ∈ tq_T, w.before _ s = true := fun w h => atoms_spec (ws := w_Th_findDemands) B.pre w (List.mem_cons_of_mem _ h)
  have hown : s.vm.findClass "TableauNodes$Things" = some m.cls := findClass_of_methodNamed B.named
  have hlocks := B.notSynchronized
  subst hsz
  have hD := hD0.self (sz := s.heap.size)
  have hS : va_S (va_A (wo cI cL cZ ad σ) s.heap.size) s.heap s.heap [] := va_S.rf
  have hA : ∀ q : Nat, s.heap.size ≤ q → va_A (wo cI cL cZ ad σ) s.heap.size q := fun q h => Or.inr h
  generalize va_A (wo cI cL cZ ad σ) s.heap.size = A at hD hS hA hZ ⊢
  have hl := lv_entry ([.ref (ad 4), .int a1, .int a2, .int a3]) (n := 14) (Nat.le_of_ble_eq_true rfl)
  rw [lg_entry_eq]
  generalize (lg_sl ([.ref (ad 4), .int a1, .int a2, .int a3]) ++ List.replicate (14 - (lg_sl ([.ref (ad 4), .int a1, .int a2, .int a3])).length) Slot.unset).toArray = ls at hl ⊢
  have hl : lv_has ls 14 [(0, .ref (ad 4)), (1, .int a1), (2, .int a2), (3, .int a3)] := hl
  have key : ∀ n : Nat, (∀ {x1 x2 x3 : Int32} {σ : tq_S} {H : Heap} {locs : List Loc} {ls : Array Slot}, va_P (dC, dI) tq_cl (wo cI cL cZ ad σ) H → va_D A (wo cI cL cZ ad σ) → va_S A s.heap H locs → lv_has ls 14 [(0, .ref (ad 4)), (1, .int x1), (2, .int x2), (3, .int x3)] → tq_go st_Th_findDemands n (0, [x1, x2, x3], [], σ) = some (tq_rt, [r], [], σ') → W p l e (headSpec w_Th_findDemands ({ frames := 2, cells := 0, slots := 0, locals := 42 } : Room)).room s m ([.ref (ad 4), .int a1, .int a2, .int a3] : List Value).toArray below meth c H locs 0 0 (MQ below (va_Qi (fun (r' : Int32) (u : tq_S) => r' = r ∧ u = σ') (tq_E dC dI cI cL cZ (wo cI cL cZ ad) A) A) ([.ref (ad 4), .int a1, .int a2, .int a3] : List Value).toArray s 0 0 A) (F0 m 0 ls [])) ∧ (∀ {x1 x2 x3 x4 x5 x6 : Int32} {σ : tq_S} {H : Heap} {locs : List Loc} {ls : Array Slot}, va_P (dC, dI) tq_cl (wo cI cL cZ ad σ) H → va_D A (wo cI cL cZ ad σ) → va_S A s.heap H locs → lv_has ls 14 [(0, .ref (ad 4)), (1, .int x1), (2, .int x2), (3, .int x3), (4, .int x4), (5, .int x5), (6, .int x6)] → tq_go st_Th_findDemands n (9, [x1, x2, x3, x4, x5, x6], [], σ) = some (tq_rt, [r], [], σ') → W p l e (headSpec w_Th_findDemands ({ frames := 2, cells := 0, slots := 0, locals := 42 } : Room)).room s m ([.ref (ad 4), .int a1, .int a2, .int a3] : List Value).toArray below meth c H locs 0 0 (MQ below (va_Qi (fun (r' : Int32) (u : tq_S) => r' = r ∧ u = σ') (tq_E dC dI cI cL cZ (wo cI cL cZ ad) A) A) ([.ref (ad 4), .int a1, .int a2, .int a3] : List Value).toArray s 0 0 A) (F0 m 9 ls [])) ∧ (∀ {x1 x4 x5 x6 x7 x8 : Int32} {σ : tq_S} {H : Heap} {locs : List Loc} {ls : Array Slot}, va_P (dC, dI) tq_cl (wo cI cL cZ ad σ) H → va_D A (wo cI cL cZ ad σ) → va_S A s.heap H locs → lv_has ls 14 [(0, .ref (ad 4)), (1, .int x1), (4, .int x4), (5, .int x5), (6, .int x6), (7, .int x7), (8, .int x8)] → tq_go st_Th_findDemands n (80, [x1, x4, x5, x6, x7, x8], [], σ) = some (tq_rt, [r], [], σ') → W p l e (headSpec w_Th_findDemands ({ frames := 2, cells := 0, slots := 0, locals := 42 } : Room)).room s m ([.ref (ad 4), .int a1, .int a2, .int a3] : List Value).toArray below meth c H locs 0 0 (MQ below (va_Qi (fun (r' : Int32) (u : tq_S) => r' = r ∧ u = σ') (tq_E dC dI cI cL cZ (wo cI cL cZ ad) A) A) ([.ref (ad 4), .int a1, .int a2, .int a3] : List Value).toArray s 0 0 A) (F0 m 80 ls [])) ∧ (∀ {x1 x4 x5 x6 x7 x8 x11 : Int32} {y9 : Int64} {σ : tq_S} {H : Heap} {locs : List Loc} {ls : Array Slot}, va_P (dC, dI) tq_cl (wo cI cL cZ ad σ) H → va_D A (wo cI cL cZ ad σ) → va_S A s.heap H locs → lv_has ls 14 [(0, .ref (ad 4)), (1, .int x1), (4, .int x4), (5, .int x5), (6, .int x6), (7, .int x7), (8, .int x8), (9, .long y9), (11, .int x11)] → tq_go st_Th_findDemands n (108, [x1, x4, x5, x6, x7, x8, x11], [y9], σ) = some (tq_rt, [r], [], σ') → W p l e (headSpec w_Th_findDemands ({ frames := 2, cells := 0, slots := 0, locals := 42 } : Room)).room s m ([.ref (ad 4), .int a1, .int a2, .int a3] : List Value).toArray below meth c H locs 0 0 (MQ below (va_Qi (fun (r' : Int32) (u : tq_S) => r' = r ∧ u = σ') (tq_E dC dI cI cL cZ (wo cI cL cZ ad) A) A) ([.ref (ad 4), .int a1, .int a2, .int a3] : List Value).toArray s 0 0 A) (F0 m 108 ls [])) := by
    intro n
    induction n with
    | zero => exact ⟨(fun _ _ _ _ h => by cases h), (fun _ _ _ _ h => by cases h), (fun _ _ _ _ h => by cases h), (fun _ _ _ _ h => by cases h)⟩
    | succ n ih =>
      refine ⟨?_, ?_, ?_, ?_⟩
      · intro x1 x2 x3 σ H locs ls hP hD hS hl h9
        obtain ⟨q9, hg, hn⟩ := tq_go_s h9 (show ¬ (0 : Nat) = tq_rt by decide)
        replace hg : bk_Th_findDemands_0 [x1, x2, x3] [] σ = some q9 := hg
        unfold bk_Th_findDemands_0 at hg
        refine lv_iconst (v := 0) hx hb d_Th_findDemands_0 (by decide) ?_
        refine lv_istore (lv' := [(4, .int 0), (0, .ref (ad 4)), (1, .int x1), (2, .int x2), (3, .int x3)]) hx hb d_Th_findDemands_1 hl (by decide) rfl (fun ls hl => ?_)
        refine lv_iconst (v := 0) hx hb d_Th_findDemands_3 (by decide) ?_
        refine lv_istore (lv' := [(5, .int 0), (4, .int 0), (0, .ref (ad 4)), (1, .int x1), (2, .int x2), (3, .int x3)]) hx hb d_Th_findDemands_4 hl (by decide) rfl (fun ls hl => ?_)
        refine lv_iconst (v := 0) hx hb d_Th_findDemands_6 (by decide) ?_
        refine lv_istore (lv' := [(6, .int 0), (5, .int 0), (4, .int 0), (0, .ref (ad 4)), (1, .int x1), (2, .int x2), (3, .int x3)]) hx hb d_Th_findDemands_7 hl (by decide) rfl (fun ls hl => ?_)
        exact ih.2.1 hP hD hS (lv_sub hl [3, 4, 5, 6, 2, 1, 0] rfl) (tq_gi hg hn)
      · intro x1 x2 x3 x4 x5 x6 σ H locs ls hP hD hS hl h9
        obtain ⟨q9, hg, hn⟩ := tq_go_s h9 (show ¬ (9 : Nat) = tq_rt by decide)
        replace hg : bk_Th_findDemands_9 [x1, x2, x3, x4, x5, x6] [] σ = some q9 := hg
        unfold bk_Th_findDemands_9 at hg
        refine lv_iload hx hb d_Th_findDemands_9 (lv_at hl 6 rfl) ?_
        refine lv_iconst (v := 5) hx hb d_Th_findDemands_11 (by decide) ?_
        refine lv_icmp_ge (tgt := 63) hx hb d_Th_findDemands_12 (by decide) (fun c1 => ?_) (fun c1 => ?_)
        · replace hg := tq_if_t c1 hg
          refine lv_iload_n hx hb d_Th_findDemands_63 rfl (lv_at hl 1 rfl) ?_
          refine lv_bipush (v := 80) hx hb d_Th_findDemands_64 (by decide) ?_
          refine lv_imul hx hb d_Th_findDemands_66 ?_
          refine lv_iload_n hx hb d_Th_findDemands_67 rfl (lv_at hl 2 rfl) ?_
          refine lv_bipush (v := 16) hx hb d_Th_findDemands_68 (by decide) ?_
          refine lv_imul hx hb d_Th_findDemands_70 ?_
          refine lv_iadd hx hb d_Th_findDemands_71 ?_
          obtain ⟨v2, ev2, hg⟩ := tq_lj_s hg
          refine tq_nmi ev2 ?_
          refine lv_istore (lv' := [(6, .int v2), (0, .ref (ad 4)), (1, .int x1), (2, .int x2), (3, .int x3), (4, .int x4), (5, .int x5)]) hx hb d_Th_findDemands_72 hl (by decide) rfl (fun ls hl => ?_)
          refine lv_iconst (v := 0) hx hb d_Th_findDemands_74 (by decide) ?_
          refine lv_istore (lv' := [(7, .int 0), (6, .int v2), (0, .ref (ad 4)), (1, .int x1), (2, .int x2), (3, .int x3), (4, .int x4), (5, .int x5)]) hx hb d_Th_findDemands_75 hl (by decide) rfl (fun ls hl => ?_)
          refine lv_iconst (v := 0) hx hb d_Th_findDemands_77 (by decide) ?_
          refine lv_istore (lv' := [(8, .int 0), (7, .int 0), (6, .int v2), (0, .ref (ad 4)), (1, .int x1), (2, .int x2), (3, .int x3), (4, .int x4), (5, .int x5)]) hx hb d_Th_findDemands_78 hl (by decide) rfl (fun ls hl => ?_)
          exact ih.2.2.1 hP hD hS (lv_sub hl [3, 4, 7, 8, 2, 1, 0] rfl) (tq_gi hg hn)
        · replace hg := tq_if_f c1 hg
          refine lv_iload_n hx hb d_Th_findDemands_15 rfl (lv_at hl 3 rfl) ?_
          refine lv_i2l hx hb d_Th_findDemands_16 rfl ?_
          refine lv_iload hx hb d_Th_findDemands_17 (lv_at hl 6 rfl) ?_
          obtain ⟨r4, σ5, f3, hg⟩ := tq_ob_s hg
          refine tq_aI (va_runSN (As := [.long x3.toInt64, .int x6]) (rest := []) ⟨hx, hb, hml, hown, hts⟩ (c_Tn_hasBit l dC dI cI cL cZ ad tt H.size σ x6 x3.toInt64 r4 σ5 f3) ⟨va_cnB 2 hts (tq_gC tw_62) rfl rfl rfl (hN _ (List.mem_of_getElem? (i := 8) rfl)) (hts _ tw_1) (by decide +kernel) ⟨Nat.le_of_ble_eq_true rfl, Nat.le_of_ble_eq_true rfl⟩, hts _ tw_61, trivial⟩ ⟨tq_bl, (tq_pr hP hK hD hS hA hZ hN)⟩ rfl rfl hl.1 rfl (lv_room (Nat.le_of_ble_eq_true rfl)) d_Th_findDemands_19 ⟨Nat.zero_le _, Nat.zero_le _⟩) hD hS hA (fun H locs hP hD hS => ?_)
          refine lv_if_eq (tgt := 57) hx hb d_Th_findDemands_22 (by decide) (fun c6 => ?_) (fun c6 => ?_)
          · replace hg := tq_if_t c6 hg
            obtain ⟨v7, ev7, hg⟩ := tq_lj_s hg
            refine lv_iinc (v := v7) (lv' := [(6, .int v7), (0, .ref (ad 4)), (1, .int x1), (2, .int x2), (3, .int x3), (4, .int x4), (5, .int x5)]) hx hb d_Th_findDemands_57 hl (k := 6) rfl (by rw [ev7]; rfl) (by decide) rfl (fun ls hl => ?_)
            refine lv_goto (tgt := 9) hx hb d_Th_findDemands_60 (by decide) ?_
            exact ih.2.1 hP hD hS (lv_sub hl [1, 2, 3, 4, 5, 6, 0] rfl) (tq_gi hg hn)
          · replace hg := tq_if_f c6 hg
            refine lv_iload hx hb d_Th_findDemands_25 (lv_at hl 4 rfl) ?_
            refine lv_aload_n hx hb d_Th_findDemands_27 rfl (lv_at hl 0 rfl) ?_
            refine va_get (D := (dC, dI)) (ci := 4) (v := .ref (ad 25)) (C := "TableauNodes$Things") (T := F_Th) (N := 15) hx hb hts in_Th hown hK hP 4 rfl rfl 4 (by decide) (hts _ tw_178) (fun _ h9 => h9) rfl d_Th_findDemands_28 ?_
            refine lv_iload_n hx hb d_Th_findDemands_31 rfl (lv_at hl 2 rfl) ?_
            refine lv_iconst (v := 5) hx hb d_Th_findDemands_32 (by decide) ?_
            refine lv_imul hx hb d_Th_findDemands_33 ?_
            refine lv_iload hx hb d_Th_findDemands_34 (lv_at hl 6 rfl) ?_
            refine lv_iadd hx hb d_Th_findDemands_36 ?_
            obtain ⟨g8, hg⟩ := tq_gd_s hg
            refine va_iald hx hb hK hP 25 0 rfl rfl g8 d_Th_findDemands_37 ?_
            refine lv_ior hx hb d_Th_findDemands_38 ?_
            obtain ⟨v9, ev9, hg⟩ := tq_lj_s hg
            refine tq_nmi ev9 ?_
            refine lv_istore (lv' := [(4, .int v9), (0, .ref (ad 4)), (1, .int x1), (2, .int x2), (3, .int x3), (5, .int x5), (6, .int x6)]) hx hb d_Th_findDemands_39 hl (by decide) rfl (fun ls hl => ?_)
            refine lv_iload hx hb d_Th_findDemands_41 (lv_at hl 5 rfl) ?_
            refine lv_aload_n hx hb d_Th_findDemands_43 rfl (lv_at hl 1 rfl) ?_
            refine va_get (D := (dC, dI)) (ci := 4) (v := .ref (ad 25)) (C := "TableauNodes$Things") (T := F_Th) (N := 15) hx hb hts in_Th hown hK hP 4 rfl rfl 4 (by decide) (hts _ tw_178) (fun _ h9 => h9) rfl d_Th_findDemands_44 ?_
            refine lv_iload hx hb d_Th_findDemands_47 (lv_at hl 6 rfl) ?_
            refine lv_iconst (v := 5) hx hb d_Th_findDemands_49 (by decide) ?_
            refine lv_imul hx hb d_Th_findDemands_50 ?_
            refine lv_iload_n hx hb d_Th_findDemands_51 rfl (lv_at hl 3 rfl) ?_
            refine lv_iadd hx hb d_Th_findDemands_52 ?_
            obtain ⟨g10, hg⟩ := tq_gd_s hg
            refine va_iald hx hb hK hP 25 0 rfl rfl g10 d_Th_findDemands_53 ?_
            refine lv_ior hx hb d_Th_findDemands_54 ?_
            obtain ⟨v11, ev11, hg⟩ := tq_lj_s hg
            refine tq_nmi ev11 ?_
            refine lv_istore (lv' := [(5, .int v11), (4, .int v9), (0, .ref (ad 4)), (1, .int x1), (2, .int x2), (3, .int x3), (6, .int x6)]) hx hb d_Th_findDemands_55 hl (by decide) rfl (fun ls hl => ?_)
            obtain ⟨v12, ev12, hg⟩ := tq_lj_s hg
            refine lv_iinc (v := v12) (lv' := [(6, .int v12), (5, .int v11), (4, .int v9), (0, .ref (ad 4)), (1, .int x1), (2, .int x2), (3, .int x3)]) hx hb d_Th_findDemands_57 hl (k := 6) rfl (by rw [ev12]; rfl) (by decide) rfl (fun ls hl => ?_)
            refine lv_goto (tgt := 9) hx hb d_Th_findDemands_60 (by decide) ?_
            exact ih.2.1 hP hD hS (lv_sub hl [3, 4, 5, 6, 2, 1, 0] rfl) (tq_gi hg hn)
      · intro x1 x4 x5 x6 x7 x8 σ H locs ls hP hD hS hl h9
        obtain ⟨q9, hg, hn⟩ := tq_go_s h9 (show ¬ (80 : Nat) = tq_rt by decide)
        replace hg : bk_Th_findDemands_80 [x1, x4, x5, x6, x7, x8] [] σ = some q9 := hg
        unfold bk_Th_findDemands_80 at hg
        refine lv_iload hx hb d_Th_findDemands_80 (lv_at hl 6 rfl) ?_
        refine lv_aload_n hx hb d_Th_findDemands_82 rfl (lv_at hl 0 rfl) ?_
        refine va_get (D := (dC, dI)) (ci := 4) (v := .int (σ.2.2 9)) (C := "TableauNodes$Things") (T := F_Th) (N := 15) hx hb hts in_Th hown hK hP 4 rfl rfl 10 (by decide) (hts _ tw_184) (fun _ h9 => h9) rfl d_Th_findDemands_83 ?_
        refine lv_icmp_ge (tgt := 187) hx hb d_Th_findDemands_86 (by decide) (fun c13 => ?_) (fun c13 => ?_)
        · replace hg := tq_if_t c13 hg
          refine lv_iload hx hb d_Th_findDemands_187 (lv_at hl 5 rfl) ?_
          exact W.iret (v := x7) hx hb hr (fun t ht hW => ⟨⟨x7, σ, rfl, tq_grI hg hn, by rw [ht]; exact hP, va_K.moved hW.alike hK, hD⟩, hS.F ht⟩) hS.2.2 d_Th_findDemands_189
        · replace hg := tq_if_f c13 hg
          refine lv_aload_n hx hb d_Th_findDemands_89 rfl (lv_at hl 0 rfl) ?_
          refine va_get (D := (dC, dI)) (ci := 4) (v := .ref (ad 26)) (C := "TableauNodes$Things") (T := F_Th) (N := 15) hx hb hts in_Th hown hK hP 4 rfl rfl 7 (by decide) (hts _ tw_181) (fun _ h9 => h9) rfl d_Th_findDemands_90 ?_
          refine lv_iload hx hb d_Th_findDemands_93 (lv_at hl 4 rfl) ?_
          refine lv_iload hx hb d_Th_findDemands_95 (lv_at hl 6 rfl) ?_
          refine lv_iadd hx hb d_Th_findDemands_97 ?_
          obtain ⟨g14, hg⟩ := tq_gd_s hg
          refine va_lald hx hb hK hP 26 1 rfl rfl g14 d_Th_findDemands_98 ?_
          obtain ⟨v15, ev15, hg⟩ := tq_lj_s hg
          refine tq_nml ev15 ?_
          refine lv_lstore (lv' := [(9, .long v15), (0, .ref (ad 4)), (1, .int x1), (4, .int x4), (5, .int x5), (6, .int x6), (7, .int x7), (8, .int x8)]) hx hb d_Th_findDemands_99 hl (by decide) rfl (fun ls hl => ?_)
          refine lv_lload hx hb d_Th_findDemands_101 (lv_at hl 0 rfl) ?_
          obtain ⟨r17, σ18, f16, hg⟩ := tq_ob_s hg
          refine tq_aI (va_runS (As := [.long v15]) (rest := []) ⟨hx, hb, hml, hown, hts⟩ (c_Jl_bitCount l dC dI cI cL cZ ad tt H.size σ  v15 r17 σ18 f16) (va_cwS 1 hts (tq_gS tw_521 tw_393 tw_8 tw_394) rfl rfl rfl (by decide +kernel) ⟨Nat.le_of_ble_eq_true rfl, Nat.le_of_ble_eq_true rfl⟩) ⟨tq_bl, (tq_pr hP hK hD hS hA hZ hN)⟩ rfl rfl hl.1 rfl (lv_room (Nat.le_of_ble_eq_true rfl)) d_Th_findDemands_103 ⟨Nat.zero_le _, Nat.zero_le _⟩) hD hS hA (fun H locs hP hD hS => ?_)
          refine lv_istore (lv' := [(11, .int r17), (9, .long v15), (0, .ref (ad 4)), (1, .int x1), (4, .int x4), (5, .int x5), (6, .int x6), (7, .int x7), (8, .int x8)]) hx hb d_Th_findDemands_106 hl (by decide) rfl (fun ls hl => ?_)
          exact ih.2.2.2 hP hD hS (lv_sub hl [2, 3, 4, 5, 6, 7, 8, 1, 0] rfl) (tq_gi hg hn)
      · intro x1 x4 x5 x6 x7 x8 x11 y9 σ H locs ls hP hD hS hl h9
        obtain ⟨q9, hg, hn⟩ := tq_go_s h9 (show ¬ (108 : Nat) = tq_rt by decide)
        replace hg : bk_Th_findDemands_108 [x1, x4, x5, x6, x7, x8, x11] [y9] σ = some q9 := hg
        unfold bk_Th_findDemands_108 at hg
        refine lv_iload hx hb d_Th_findDemands_108 (lv_at hl 8 rfl) ?_
        refine lv_if_le (tgt := 181) hx hb d_Th_findDemands_110 (by decide) (fun c19 => ?_) (fun c19 => ?_)
        · replace hg := tq_if_t c19 hg
          obtain ⟨v20, ev20, hg⟩ := tq_lj_s hg
          refine lv_iinc (v := v20) (lv' := [(8, .int v20), (0, .ref (ad 4)), (1, .int x1), (4, .int x4), (5, .int x5), (6, .int x6), (7, .int x7), (9, .long y9), (11, .int x11)]) hx hb d_Th_findDemands_181 hl (k := 6) rfl (by rw [ev20]; rfl) (by decide) rfl (fun ls hl => ?_)
          refine lv_goto (tgt := 80) hx hb d_Th_findDemands_184 (by decide) ?_
          exact ih.2.2.1 hP hD hS (lv_sub hl [1, 2, 3, 4, 5, 6, 0] rfl) (tq_gi hg hn)
        · replace hg := tq_if_f c19 hg
          refine lv_iload hx hb d_Th_findDemands_113 (lv_at hl 6 rfl) ?_
          refine lv_bipush (v := 64) hx hb d_Th_findDemands_115 (by decide) ?_
          refine lv_imul hx hb d_Th_findDemands_117 ?_
          refine lv_lload hx hb d_Th_findDemands_118 (lv_at hl 7 rfl) ?_
          obtain ⟨r22, σ23, f21, hg⟩ := tq_ob_s hg
          refine tq_aI (va_runSN (As := [.long y9]) (rest := [.int (x8 * 64)]) ⟨hx, hb, hml, hown, hts⟩ (c_Tn_lowestBit l dC dI cI cL cZ ad tt H.size σ  y9 r22 σ23 f21) ⟨va_cnB 1 hts (tq_gC tw_400) rfl rfl rfl (hN _ (List.mem_of_getElem? (i := 9) rfl)) (hts _ tw_1) (by decide +kernel) ⟨Nat.le_of_ble_eq_true rfl, Nat.le_of_ble_eq_true rfl⟩, hts _ tw_399, trivial⟩ ⟨tq_bl, (tq_pr hP hK hD hS hA hZ hN)⟩ rfl rfl hl.1 rfl (lv_room (Nat.le_of_ble_eq_true rfl)) d_Th_findDemands_120 ⟨Nat.zero_le _, Nat.zero_le _⟩) hD hS hA (fun H locs hP hD hS => ?_)
          refine lv_iadd hx hb d_Th_findDemands_123 ?_
          obtain ⟨v24, ev24, hg⟩ := tq_lj_s hg
          refine tq_nmi ev24 ?_
          refine lv_istore (lv' := [(12, .int v24), (0, .ref (ad 4)), (1, .int x1), (4, .int x4), (5, .int x5), (6, .int x6), (7, .int x7), (8, .int x8), (9, .long y9), (11, .int x11)]) hx hb d_Th_findDemands_124 hl (by decide) rfl (fun ls hl => ?_)
          refine lv_iload hx hb d_Th_findDemands_126 (lv_at hl 3 rfl) ?_
          refine lv_iload hx hb d_Th_findDemands_128 (lv_at hl 0 rfl) ?_
          refine lv_iconst (v := (-1)) hx hb d_Th_findDemands_130 (by decide) ?_
          refine lv_ixor hx hb d_Th_findDemands_131 ?_
          refine lv_iand hx hb d_Th_findDemands_132 ?_
          refine lv_bipush (v := 10) hx hb d_Th_findDemands_133 (by decide) ?_
          refine lv_ishl hx hb d_Th_findDemands_135 ?_
          refine lv_iload hx hb d_Th_findDemands_136 (lv_at hl 4 rfl) ?_
          refine lv_aload_n hx hb d_Th_findDemands_138 rfl (lv_at hl 1 rfl) ?_
          refine va_get (D := (dC, dI)) (ci := 4) (v := .ref (ad 1)) (C := "TableauNodes$Things") (T := F_Th) (N := 15) hx hb hts in_Th hown hK hP 4 rfl rfl 0 (by decide) (hts _ tw_174) (fun _ h9 => h9) rfl d_Th_findDemands_139 ?_
          refine lv_iload hx hb d_Th_findDemands_142 (lv_at hl 0 rfl) ?_
          obtain ⟨r26, σ27, f25, hg⟩ := tq_ob_s hg
          refine tq_aI (va_runV (As := [.int v24]) (rest := [.int x5, .int ((x4 &&& (v24 ^^^ (-1))) <<< (10 &&& 31))]) ⟨hx, hb, hml, hown, hts⟩ (c_Co_inners l dC dI cI cL cZ ad tt H.size σ23 v24  r26 σ27 f25) (cwV 1 hts (tq_gV tw_527 tw_381 tw_382 tw_2 tw_383) rfl rfl rfl (by decide +kernel) ⟨Nat.le_of_ble_eq_true rfl, Nat.le_of_ble_eq_true rfl⟩) ⟨tq_bl, va_recv hK hP (ci := 1) (q0 := 1) rfl rfl, (tq_pr hP hK hD hS hA hZ hN)⟩ rfl rfl hl.1 rfl (lv_room (Nat.le_of_ble_eq_true rfl)) d_Th_findDemands_144 ⟨Nat.zero_le _, Nat.zero_le _⟩) hD hS hA (fun H locs hP hD hS => ?_)
          refine lv_iand hx hb d_Th_findDemands_147 ?_
          refine lv_ior hx hb d_Th_findDemands_148 ?_
          obtain ⟨v28, ev28, hg⟩ := tq_lj_s hg
          refine tq_nmi ev28 ?_
          refine lv_istore (lv' := [(13, .int v28), (12, .int v24), (0, .ref (ad 4)), (1, .int x1), (4, .int x4), (5, .int x5), (6, .int x6), (7, .int x7), (8, .int x8), (9, .long y9), (11, .int x11)]) hx hb d_Th_findDemands_149 hl (by decide) rfl (fun ls hl => ?_)
          refine lv_aload_n hx hb d_Th_findDemands_151 rfl (lv_at hl 2 rfl) ?_
          refine lv_iload_n hx hb d_Th_findDemands_152 rfl (lv_at hl 3 rfl) ?_
          refine lv_sipush (v := 1024) hx hb d_Th_findDemands_153 (by decide) ?_
          refine lv_imul hx hb d_Th_findDemands_156 ?_
          refine lv_iload hx hb d_Th_findDemands_157 (lv_at hl 7 rfl) ?_
          refine lv_iload hx hb d_Th_findDemands_159 (lv_at hl 0 rfl) ?_
          obtain ⟨r30, σ31, f29, hg⟩ := tq_ob_s hg
          refine tq_aI (va_runV (As := [.int (x1 * 1024), .int x7, .int v28]) (rest := []) ⟨hx, hb, hml, hown, hts⟩ (c_Th_addDemand l dC dI cI cL cZ ad tt H.size σ27 (x1 * 1024) x7 v28  r30 σ31 f29) (cwV 3 hts (tq_gV tw_528 tw_530 ts_23 tw_5 tw_531) rfl rfl rfl (by decide +kernel) ⟨Nat.le_of_ble_eq_true rfl, Nat.le_of_ble_eq_true rfl⟩) ⟨tq_bl, va_recv hK hP (ci := 4) (q0 := 4) rfl rfl, (tq_pr hP hK hD hS hA hZ hN)⟩ rfl rfl hl.1 rfl (lv_room (Nat.le_of_ble_eq_true rfl)) d_Th_findDemands_161 ⟨Nat.zero_le _, Nat.zero_le _⟩) hD hS hA (fun H locs hP hD hS => ?_)
          refine lv_istore (lv' := [(7, .int r30), (13, .int v28), (12, .int v24), (0, .ref (ad 4)), (1, .int x1), (4, .int x4), (5, .int x5), (6, .int x6), (8, .int x8), (9, .long y9), (11, .int x11)]) hx hb d_Th_findDemands_164 hl (by decide) rfl (fun ls hl => ?_)
          refine lv_lload hx hb d_Th_findDemands_166 (lv_at hl 9 rfl) ?_
          refine lv_lload hx hb d_Th_findDemands_168 (lv_at hl 9 rfl) ?_
          refine lv_lconst (v := 1) hx hb d_Th_findDemands_170 (by decide) ?_
          refine lv_lsub hx hb d_Th_findDemands_171 ?_
          refine lv_land hx hb d_Th_findDemands_172 ?_
          obtain ⟨v32, ev32, hg⟩ := tq_lj_s hg
          refine tq_nml ev32 ?_
          refine lv_lstore (lv' := [(9, .long v32), (7, .int r30), (13, .int v28), (12, .int v24), (0, .ref (ad 4)), (1, .int x1), (4, .int x4), (5, .int x5), (6, .int x6), (8, .int x8), (11, .int x11)]) hx hb d_Th_findDemands_173 hl (by decide) rfl (fun ls hl => ?_)
          obtain ⟨v33, ev33, hg⟩ := tq_lj_s hg
          refine lv_iinc (v := v33) (lv' := [(11, .int v33), (9, .long v32), (7, .int r30), (13, .int v28), (12, .int v24), (0, .ref (ad 4)), (1, .int x1), (4, .int x4), (5, .int x5), (6, .int x6), (8, .int x8)]) hx hb d_Th_findDemands_175 hl (k := 10) rfl (by rw [ev33]; rfl) (by decide) rfl (fun ls hl => ?_)
          refine lv_goto (tgt := 108) hx hb d_Th_findDemands_178 (by decide) ?_
          exact ih.2.2.2 hP hD hS (lv_sub hl [5, 6, 7, 8, 9, 2, 10, 1, 0] rfl) (tq_gi hg hn)
  exact (key n0).1 hP hD hS hl h0
noncomputable def bk_Th_fitting_0 : List Int32 → List Int64 → tq_S → Option tq_C
  | [x3, x4, x5], [y1], σ => tq_lj (x3 ||| x4) (fun v1 => some (12, [x3, x4, x5, v1, 0], [y1], σ))
  | _, _, _ => none
noncomputable def bk_Th_fitting_12 : List Int32 → List Int64 → tq_S → Option tq_C
  | [x3, x4, x5, x8, x9], [y6], σ => if 10 ≤ x9 then some (tq_rt, [], [y6], σ) else if (lg_cmp y6 0) = 0 then some (tq_rt, [], [y6], σ) else if (x8 >>> (x9 &&& 31)) = 0 then some (tq_rt, [], [y6], σ) else tq_ob (tq_fI st_Tn_hasBit (0, [x9], [x3.toInt64], σ)) (fun r6 σ7 => if r6 = 0 then some (60, [x3, x4, x5, x8, x9], [y6], σ7) else tq_ob (tq_fL st_Co_atomWord (0, [x9, x5], [], σ7)) (fun r10 σ11 => tq_lj (y6 &&& r10) (fun v12 => some (60, [x3, x4, x5, x8, x9], [v12], σ11))))
  | _, _, _ => none
noncomputable def bk_Th_fitting_60 : List Int32 → List Int64 → tq_S → Option tq_C
  | [x3, x4, x5, x8, x9], [y6], σ => tq_ob (tq_fI st_Tn_hasBit (0, [x9], [x4.toInt64], σ)) (fun r14 σ15 => if r14 = 0 then tq_lj (x9 + 1) (fun v17 => some (12, [x3, x4, x5, x8, v17], [y6], σ15)) else tq_ob (tq_fL st_Co_innerWord (0, [x9, x5], [], σ15)) (fun r19 σ20 => tq_lj (y6 &&& (r19 ^^^ (-1))) (fun v21 => tq_lj (x9 + 1) (fun v22 => some (12, [x3, x4, x5, x8, v22], [v21], σ20)))))
  | _, _, _ => none
noncomputable def st_Th_fitting (c : tq_C) : Option tq_C := if c.1 = 0 then bk_Th_fitting_0 c.2.1 c.2.2.1 c.2.2.2 else if c.1 = 12 then bk_Th_fitting_12 c.2.1 c.2.2.1 c.2.2.2 else if c.1 = 60 then bk_Th_fitting_60 c.2.1 c.2.2.1 c.2.2.2 else none
set_option maxHeartbeats 40000000 in
set_option maxRecDepth 100000 in
theorem c_Th_fitting (l : Launch) (dC : Nat → ClassId) (dI : Nat → Nat → Nat) (cI cL cZ : ClassId) (ad : Nat → Nat) (tt : Nat) (sz : Nat) (σ : tq_S) (a3 : Int32) (a4 : Int32) (a5 : Int32) (b1 : Int64) (r : Int64) (σ' : tq_S) (hf : tq_fL st_Th_fitting (0, [a3, a4, a5], [b1], σ) = some (r, σ')) : Met l y_Th_fitting w_Th_fitting ({ frames := 1, cells := 0, slots := 0, locals := 23 } : Room) (va_Pc [.ref (ad 4), .long b1, .int a3, .int a4, .int a5] (tq_B dC dI cI cL cZ tt (wo cI cL cZ ad σ) sz)) (va_Ql (fun (r' : Int64) (u : tq_S) => r' = r ∧ u = σ') (tq_E dC dI cI cL cZ (wo cI cL cZ ad) (va_A (wo cI cL cZ ad σ) sz)) (va_A (wo cI cL cZ ad σ) sz)) 0 0 (va_A (wo cI cL cZ ad σ) sz) := by
  obtain ⟨n0, h0⟩ := tq_fL_to hf
  refine Met.ofW (cc := prog_5_method_19_code) (maxL := 10) (ret := (some .long)) (by decide) rfl ?_
  intro p e s m args below meth c s₁ B hml hv
  obtain ⟨rfl, hsz, hP, hK, hD0, hZ, hN⟩ := hv
  have hx := B.exec
  have hb := B.bytes
  have hr := B.returns
  have hts : ∀ w ∈ tq_T, w.before _ s = true := fun w h => atoms_spec (ws := w_Th_fitting) B.pre w (List.mem_cons_of_mem _ h)
  have hown : s.vm.findClass "TableauNodes$Things" = some m.cls := findClass_of_methodNamed B.named
  have hlocks := B.notSynchronized
  subst hsz
  have hD := hD0.self (sz := s.heap.size)
  have hS : va_S (va_A (wo cI cL cZ ad σ) s.heap.size) s.heap s.heap [] := va_S.rf
  have hA : ∀ q : Nat, s.heap.size ≤ q → va_A (wo cI cL cZ ad σ) s.heap.size q := fun q h => Or.inr h
  generalize va_A (wo cI cL cZ ad σ) s.heap.size = A at hD hS hA hZ ⊢
  have hl := lv_entry ([.ref (ad 4), .long b1, .int a3, .int a4, .int a5]) (n := 10) (Nat.le_of_ble_eq_true rfl)
  rw [lg_entry_eq]
  generalize (lg_sl ([.ref (ad 4), .long b1, .int a3, .int a4, .int a5]) ++ List.replicate (10 - (lg_sl ([.ref (ad 4), .long b1, .int a3, .int a4, .int a5])).length) Slot.unset).toArray = ls at hl ⊢
  have hl : lv_has ls 10 [(0, .ref (ad 4)), (1, .long b1), (3, .int a3), (4, .int a4), (5, .int a5)] := hl
  have key : ∀ n : Nat, (∀ {x3 x4 x5 : Int32} {y1 : Int64} {σ : tq_S} {H : Heap} {locs : List Loc} {ls : Array Slot}, va_P (dC, dI) tq_cl (wo cI cL cZ ad σ) H → va_D A (wo cI cL cZ ad σ) → va_S A s.heap H locs → lv_has ls 10 [(0, .ref (ad 4)), (1, .long y1), (3, .int x3), (4, .int x4), (5, .int x5)] → tq_go st_Th_fitting n (0, [x3, x4, x5], [y1], σ) = some (tq_rt, [], [r], σ') → W p l e (headSpec w_Th_fitting ({ frames := 1, cells := 0, slots := 0, locals := 23 } : Room)).room s m ([.ref (ad 4), .long b1, .int a3, .int a4, .int a5] : List Value).toArray below meth c H locs 0 0 (MQ below (va_Ql (fun (r' : Int64) (u : tq_S) => r' = r ∧ u = σ') (tq_E dC dI cI cL cZ (wo cI cL cZ ad) A) A) ([.ref (ad 4), .long b1, .int a3, .int a4, .int a5] : List Value).toArray s 0 0 A) (F0 m 0 ls [])) ∧ (∀ {x3 x4 x5 x8 x9 : Int32} {y6 : Int64} {σ : tq_S} {H : Heap} {locs : List Loc} {ls : Array Slot}, va_P (dC, dI) tq_cl (wo cI cL cZ ad σ) H → va_D A (wo cI cL cZ ad σ) → va_S A s.heap H locs → lv_has ls 10 [(0, .ref (ad 4)), (3, .int x3), (4, .int x4), (5, .int x5), (6, .long y6), (8, .int x8), (9, .int x9)] → tq_go st_Th_fitting n (12, [x3, x4, x5, x8, x9], [y6], σ) = some (tq_rt, [], [r], σ') → W p l e (headSpec w_Th_fitting ({ frames := 1, cells := 0, slots := 0, locals := 23 } : Room)).room s m ([.ref (ad 4), .long b1, .int a3, .int a4, .int a5] : List Value).toArray below meth c H locs 0 0 (MQ below (va_Ql (fun (r' : Int64) (u : tq_S) => r' = r ∧ u = σ') (tq_E dC dI cI cL cZ (wo cI cL cZ ad) A) A) ([.ref (ad 4), .long b1, .int a3, .int a4, .int a5] : List Value).toArray s 0 0 A) (F0 m 12 ls [])) ∧ (∀ {x3 x4 x5 x8 x9 : Int32} {y6 : Int64} {σ : tq_S} {H : Heap} {locs : List Loc} {ls : Array Slot}, va_P (dC, dI) tq_cl (wo cI cL cZ ad σ) H → va_D A (wo cI cL cZ ad σ) → va_S A s.heap H locs → lv_has ls 10 [(0, .ref (ad 4)), (3, .int x3), (4, .int x4), (5, .int x5), (6, .long y6), (8, .int x8), (9, .int x9)] → tq_go st_Th_fitting n (60, [x3, x4, x5, x8, x9], [y6], σ) = some (tq_rt, [], [r], σ') → W p l e (headSpec w_Th_fitting ({ frames := 1, cells := 0, slots := 0, locals := 23 } : Room)).room s m ([.ref (ad 4), .long b1, .int a3, .int a4, .int a5] : List Value).toArray below meth c H locs 0 0 (MQ below (va_Ql (fun (r' : Int64) (u : tq_S) => r' = r ∧ u = σ') (tq_E dC dI cI cL cZ (wo cI cL cZ ad) A) A) ([.ref (ad 4), .long b1, .int a3, .int a4, .int a5] : List Value).toArray s 0 0 A) (F0 m 60 ls [])) := by
    intro n
    induction n with
    | zero => exact ⟨(fun _ _ _ _ h => by cases h), (fun _ _ _ _ h => by cases h), (fun _ _ _ _ h => by cases h)⟩
    | succ n ih =>
      refine ⟨?_, ?_, ?_⟩
      · intro x3 x4 x5 y1 σ H locs ls hP hD hS hl h9
        obtain ⟨q9, hg, hn⟩ := tq_go_s h9 (show ¬ (0 : Nat) = tq_rt by decide)
        replace hg : bk_Th_fitting_0 [x3, x4, x5] [y1] σ = some q9 := hg
        unfold bk_Th_fitting_0 at hg
        refine lv_lload_n hx hb d_Th_fitting_0 rfl (lv_at hl 1 rfl) ?_
        refine lv_lstore (lv' := [(6, .long y1), (0, .ref (ad 4)), (1, .long y1), (3, .int x3), (4, .int x4), (5, .int x5)]) hx hb d_Th_fitting_1 hl (by decide) rfl (fun ls hl => ?_)
        refine lv_iload_n hx hb d_Th_fitting_3 rfl (lv_at hl 3 rfl) ?_
        refine lv_iload hx hb d_Th_fitting_4 (lv_at hl 4 rfl) ?_
        refine lv_ior hx hb d_Th_fitting_6 ?_
        obtain ⟨v1, ev1, hg⟩ := tq_lj_s hg
        refine tq_nmi ev1 ?_
        refine lv_istore (lv' := [(8, .int v1), (6, .long y1), (0, .ref (ad 4)), (1, .long y1), (3, .int x3), (4, .int x4), (5, .int x5)]) hx hb d_Th_fitting_7 hl (by decide) rfl (fun ls hl => ?_)
        refine lv_iconst (v := 0) hx hb d_Th_fitting_9 (by decide) ?_
        refine lv_istore (lv' := [(9, .int 0), (8, .int v1), (6, .long y1), (0, .ref (ad 4)), (1, .long y1), (3, .int x3), (4, .int x4), (5, .int x5)]) hx hb d_Th_fitting_10 hl (by decide) rfl (fun ls hl => ?_)
        exact ih.2.1 hP hD hS (lv_sub hl [3, 5, 6, 7, 2, 1, 0] rfl) (tq_gi hg hn)
      · intro x3 x4 x5 x8 x9 y6 σ H locs ls hP hD hS hl h9
        obtain ⟨q9, hg, hn⟩ := tq_go_s h9 (show ¬ (12 : Nat) = tq_rt by decide)
        replace hg : bk_Th_fitting_12 [x3, x4, x5, x8, x9] [y6] σ = some q9 := hg
        unfold bk_Th_fitting_12 at hg
        refine lv_iload hx hb d_Th_fitting_12 (lv_at hl 6 rfl) ?_
        refine lv_bipush (v := 10) hx hb d_Th_fitting_14 (by decide) ?_
        refine lv_icmp_ge (tgt := 97) hx hb d_Th_fitting_16 (by decide) (fun c2 => ?_) (fun c2 => ?_)
        · replace hg := tq_if_t c2 hg
          refine lv_lload hx hb d_Th_fitting_97 (lv_at hl 4 rfl) ?_
          exact W.lret (v := y6) hx hb hr (fun t ht hW => ⟨⟨y6, σ, rfl, tq_grL hg hn, by rw [ht]; exact hP, va_K.moved hW.alike hK, hD⟩, hS.F ht⟩) hS.2.2 d_Th_fitting_99
        · replace hg := tq_if_f c2 hg
          refine lv_lload hx hb d_Th_fitting_19 (lv_at hl 4 rfl) ?_
          refine lv_lconst (v := 0) hx hb d_Th_fitting_21 (by decide) ?_
          refine W.lcmp hx hb d_Th_fitting_22 ?_
          refine lv_if_eq (tgt := 97) hx hb d_Th_fitting_23 (by decide) (fun c3 => ?_) (fun c3 => ?_)
          · replace hg := tq_if_t c3 hg
            refine lv_lload hx hb d_Th_fitting_97 (lv_at hl 4 rfl) ?_
            exact W.lret (v := y6) hx hb hr (fun t ht hW => ⟨⟨y6, σ, rfl, tq_grL hg hn, by rw [ht]; exact hP, va_K.moved hW.alike hK, hD⟩, hS.F ht⟩) hS.2.2 d_Th_fitting_99
          · replace hg := tq_if_f c3 hg
            refine lv_iload hx hb d_Th_fitting_26 (lv_at hl 5 rfl) ?_
            refine lv_iload hx hb d_Th_fitting_28 (lv_at hl 6 rfl) ?_
            refine lv_ishr hx hb d_Th_fitting_30 ?_
            refine lv_if_eq (tgt := 97) hx hb d_Th_fitting_31 (by decide) (fun c4 => ?_) (fun c4 => ?_)
            · replace hg := tq_if_t c4 hg
              refine lv_lload hx hb d_Th_fitting_97 (lv_at hl 4 rfl) ?_
              exact W.lret (v := y6) hx hb hr (fun t ht hW => ⟨⟨y6, σ, rfl, tq_grL hg hn, by rw [ht]; exact hP, va_K.moved hW.alike hK, hD⟩, hS.F ht⟩) hS.2.2 d_Th_fitting_99
            · replace hg := tq_if_f c4 hg
              refine lv_iload_n hx hb d_Th_fitting_34 rfl (lv_at hl 1 rfl) ?_
              refine lv_i2l hx hb d_Th_fitting_35 rfl ?_
              refine lv_iload hx hb d_Th_fitting_36 (lv_at hl 6 rfl) ?_
              obtain ⟨r6, σ7, f5, hg⟩ := tq_ob_s hg
              refine tq_aI (va_runSN (As := [.long x3.toInt64, .int x9]) (rest := []) ⟨hx, hb, hml, hown, hts⟩ (c_Tn_hasBit l dC dI cI cL cZ ad tt H.size σ x9 x3.toInt64 r6 σ7 f5) ⟨va_cnB 2 hts (tq_gC tw_62) rfl rfl rfl (hN _ (List.mem_of_getElem? (i := 8) rfl)) (hts _ tw_1) (by decide +kernel) ⟨Nat.le_of_ble_eq_true rfl, Nat.le_of_ble_eq_true rfl⟩, hts _ tw_61, trivial⟩ ⟨tq_bl, (tq_pr hP hK hD hS hA hZ hN)⟩ rfl rfl hl.1 rfl (lv_room (Nat.le_of_ble_eq_true rfl)) d_Th_fitting_38 ⟨Nat.zero_le _, Nat.zero_le _⟩) hD hS hA (fun H locs hP hD hS => ?_)
              refine lv_if_eq (tgt := 60) hx hb d_Th_fitting_41 (by decide) (fun c8 => ?_) (fun c8 => ?_)
              · replace hg := tq_if_t c8 hg
                exact ih.2.2 hP hD hS (lv_sub hl [0, 1, 2, 3, 4, 5, 6] rfl) (tq_gi hg hn)
              · replace hg := tq_if_f c8 hg
                refine lv_lload hx hb d_Th_fitting_44 (lv_at hl 4 rfl) ?_
                refine lv_aload_n hx hb d_Th_fitting_46 rfl (lv_at hl 0 rfl) ?_
                refine va_get (D := (dC, dI)) (ci := 4) (v := .ref (ad 1)) (C := "TableauNodes$Things") (T := F_Th) (N := 15) hx hb hts in_Th hown hK hP 4 rfl rfl 0 (by decide) (hts _ tw_174) (fun _ h9 => h9) rfl d_Th_fitting_47 ?_
                refine lv_iload hx hb d_Th_fitting_50 (lv_at hl 6 rfl) ?_
                refine lv_iload hx hb d_Th_fitting_52 (lv_at hl 3 rfl) ?_
                obtain ⟨r10, σ11, f9, hg⟩ := tq_ob_s hg
                refine tq_aL (va_runV (As := [.int x9, .int x5]) (rest := [.long y6]) ⟨hx, hb, hml, hown, hts⟩ (c_Co_atomWord l dC dI cI cL cZ ad tt H.size σ7 x9 x5  r10 σ11 f9) (cwV 2 hts (tq_gV tw_503 tw_43 tw_44 tw_2 tw_45) rfl rfl rfl (by decide +kernel) ⟨Nat.le_of_ble_eq_true rfl, Nat.le_of_ble_eq_true rfl⟩) ⟨tq_bl, va_recv hK hP (ci := 1) (q0 := 1) rfl rfl, (tq_pr hP hK hD hS hA hZ hN)⟩ rfl rfl hl.1 rfl (lv_room (Nat.le_of_ble_eq_true rfl)) d_Th_fitting_54 ⟨Nat.zero_le _, Nat.zero_le _⟩) hD hS hA (fun H locs hP hD hS => ?_)
                refine lv_land hx hb d_Th_fitting_57 ?_
                obtain ⟨v12, ev12, hg⟩ := tq_lj_s hg
                refine tq_nml ev12 ?_
                refine lv_lstore (lv' := [(6, .long v12), (0, .ref (ad 4)), (3, .int x3), (4, .int x4), (5, .int x5), (8, .int x8), (9, .int x9)]) hx hb d_Th_fitting_58 hl (by decide) rfl (fun ls hl => ?_)
                exact ih.2.2 hP hD hS (lv_sub hl [1, 2, 3, 4, 0, 5, 6] rfl) (tq_gi hg hn)
      · intro x3 x4 x5 x8 x9 y6 σ H locs ls hP hD hS hl h9
        obtain ⟨q9, hg, hn⟩ := tq_go_s h9 (show ¬ (60 : Nat) = tq_rt by decide)
        replace hg : bk_Th_fitting_60 [x3, x4, x5, x8, x9] [y6] σ = some q9 := hg
        unfold bk_Th_fitting_60 at hg
        refine lv_iload hx hb d_Th_fitting_60 (lv_at hl 2 rfl) ?_
        refine lv_i2l hx hb d_Th_fitting_62 rfl ?_
        refine lv_iload hx hb d_Th_fitting_63 (lv_at hl 6 rfl) ?_
        obtain ⟨r14, σ15, f13, hg⟩ := tq_ob_s hg
        refine tq_aI (va_runSN (As := [.long x4.toInt64, .int x9]) (rest := []) ⟨hx, hb, hml, hown, hts⟩ (c_Tn_hasBit l dC dI cI cL cZ ad tt H.size σ x9 x4.toInt64 r14 σ15 f13) ⟨va_cnB 2 hts (tq_gC tw_62) rfl rfl rfl (hN _ (List.mem_of_getElem? (i := 8) rfl)) (hts _ tw_1) (by decide +kernel) ⟨Nat.le_of_ble_eq_true rfl, Nat.le_of_ble_eq_true rfl⟩, hts _ tw_61, trivial⟩ ⟨tq_bl, (tq_pr hP hK hD hS hA hZ hN)⟩ rfl rfl hl.1 rfl (lv_room (Nat.le_of_ble_eq_true rfl)) d_Th_fitting_65 ⟨Nat.zero_le _, Nat.zero_le _⟩) hD hS hA (fun H locs hP hD hS => ?_)
        refine lv_if_eq (tgt := 91) hx hb d_Th_fitting_68 (by decide) (fun c16 => ?_) (fun c16 => ?_)
        · replace hg := tq_if_t c16 hg
          obtain ⟨v17, ev17, hg⟩ := tq_lj_s hg
          refine lv_iinc (v := v17) (lv' := [(9, .int v17), (0, .ref (ad 4)), (3, .int x3), (4, .int x4), (5, .int x5), (6, .long y6), (8, .int x8)]) hx hb d_Th_fitting_91 hl (k := 6) rfl (by rw [ev17]; rfl) (by decide) rfl (fun ls hl => ?_)
          refine lv_goto (tgt := 12) hx hb d_Th_fitting_94 (by decide) ?_
          exact ih.2.1 hP hD hS (lv_sub hl [1, 2, 3, 4, 5, 6, 0] rfl) (tq_gi hg hn)
        · replace hg := tq_if_f c16 hg
          refine lv_lload hx hb d_Th_fitting_71 (lv_at hl 4 rfl) ?_
          refine lv_aload_n hx hb d_Th_fitting_73 rfl (lv_at hl 0 rfl) ?_
          refine va_get (D := (dC, dI)) (ci := 4) (v := .ref (ad 1)) (C := "TableauNodes$Things") (T := F_Th) (N := 15) hx hb hts in_Th hown hK hP 4 rfl rfl 0 (by decide) (hts _ tw_174) (fun _ h9 => h9) rfl d_Th_fitting_74 ?_
          refine lv_iload hx hb d_Th_fitting_77 (lv_at hl 6 rfl) ?_
          refine lv_iload hx hb d_Th_fitting_79 (lv_at hl 3 rfl) ?_
          obtain ⟨r19, σ20, f18, hg⟩ := tq_ob_s hg
          refine tq_aL (va_runV (As := [.int x9, .int x5]) (rest := [.long y6]) ⟨hx, hb, hml, hown, hts⟩ (c_Co_innerWord l dC dI cI cL cZ ad tt H.size σ15 x9 x5  r19 σ20 f18) (cwV 2 hts (tq_gV tw_504 tw_505 tw_506 tw_2 tw_507) rfl rfl rfl (by decide +kernel) ⟨Nat.le_of_ble_eq_true rfl, Nat.le_of_ble_eq_true rfl⟩) ⟨tq_bl, va_recv hK hP (ci := 1) (q0 := 1) rfl rfl, (tq_pr hP hK hD hS hA hZ hN)⟩ rfl rfl hl.1 rfl (lv_room (Nat.le_of_ble_eq_true rfl)) d_Th_fitting_81 ⟨Nat.zero_le _, Nat.zero_le _⟩) hD hS hA (fun H locs hP hD hS => ?_)
          refine lv_ldc2 (v := (-1)) hx hb hown (hts _ tw_173) d_Th_fitting_84 ?_
          refine lv_lxor hx hb d_Th_fitting_87 ?_
          refine lv_land hx hb d_Th_fitting_88 ?_
          obtain ⟨v21, ev21, hg⟩ := tq_lj_s hg
          refine tq_nml ev21 ?_
          refine lv_lstore (lv' := [(6, .long v21), (0, .ref (ad 4)), (3, .int x3), (4, .int x4), (5, .int x5), (8, .int x8), (9, .int x9)]) hx hb d_Th_fitting_89 hl (by decide) rfl (fun ls hl => ?_)
          obtain ⟨v22, ev22, hg⟩ := tq_lj_s hg
          refine lv_iinc (v := v22) (lv' := [(9, .int v22), (6, .long v21), (0, .ref (ad 4)), (3, .int x3), (4, .int x4), (5, .int x5), (8, .int x8)]) hx hb d_Th_fitting_91 hl (k := 6) rfl (by rw [ev22]; rfl) (by decide) rfl (fun ls hl => ?_)
          refine lv_goto (tgt := 12) hx hb d_Th_fitting_94 (by decide) ?_
          exact ih.2.1 hP hD hS (lv_sub hl [2, 3, 4, 5, 1, 6, 0] rfl) (tq_gi hg hn)
  exact (key n0).1 hP hD hS hl h0
noncomputable def bk_Th_passOn_0 : List Int32 → List Int64 → tq_S → Option tq_C
  | [x1, x2, x3, x4], [], σ => tq_lj (x4 >>> (10 &&& 31)) (fun v1 => some (10, [x1, x2, x3, x4, v1, 0], [], σ))
  | _, _, _ => none
noncomputable def bk_Th_passOn_10 : List Int32 → List Int64 → tq_S → Option tq_C
  | [x1, x2, x3, x4, x5, x6], [], σ => if 5 ≤ x6 then some (tq_rt, [1], [], σ) else tq_ob (tq_fI st_Tn_hasBit (0, [x6], [x3.toInt64], σ)) (fun r4 σ5 => if ¬ r4 = 0 then tq_gd ((x6 * 5) + x2) 25 (tq_lj (x4 &&& (ia σ5 14 ((x6 * 5) + x2))) (fun v8 => tq_gd ((x2 * 5) + x6) 25 (tq_lj (x5 &&& (ia σ5 14 ((x2 * 5) + x6))) (fun v10 => tq_lj ((x1 * 80) + (x6 * 16)) (fun v11 => some (79, [x1, x2, x3, x4, x5, x6, v8, v10, v11, 0], [0], σ5)))))) else tq_lj (x6 + 1) (fun v12 => some (10, [x1, x2, x3, x4, x5, v12], [], σ5)))
  | _, _, _ => none
noncomputable def bk_Th_passOn_79 : List Int32 → List Int64 → tq_S → Option tq_C
  | [x1, x2, x3, x4, x5, x6, x7, x8, x9, x12], [y10], σ => if (σ.2.2 9) ≤ x12 then if ¬ (lg_cmp y10 0) = 0 then tq_lj (x6 + 1) (fun v15 => some (10, [x1, x2, x3, x4, x5, v15], [], σ)) else some (tq_rt, [0], [], σ) else tq_gd (x9 + x12) 400 (tq_ob (tq_fL st_Th_fitting (0, [x7, x8, x12], [(la σ 5 (x9 + x12))], σ)) (fun r18 σ19 => tq_gd ((x9 + 80) + x12) 400 (tq_lj (lput σ19 5 ((x9 + 80) + x12).toNatClampNeg r18) (fun σ21 => tq_lj (y10 ||| r18) (fun v22 => tq_lj (x12 + 1) (fun v23 => some (79, [x1, x2, x3, x4, x5, x6, x7, x8, x9, v23], [v22], σ21)))))))
  | _, _, _ => none
noncomputable def st_Th_passOn (c : tq_C) : Option tq_C := if c.1 = 0 then bk_Th_passOn_0 c.2.1 c.2.2.1 c.2.2.2 else if c.1 = 10 then bk_Th_passOn_10 c.2.1 c.2.2.1 c.2.2.2 else if c.1 = 79 then bk_Th_passOn_79 c.2.1 c.2.2.1 c.2.2.2 else none
set_option maxHeartbeats 40000000 in
set_option maxRecDepth 100000 in
theorem c_Th_passOn (l : Launch) (dC : Nat → ClassId) (dI : Nat → Nat → Nat) (cI cL cZ : ClassId) (ad : Nat → Nat) (tt : Nat) (sz : Nat) (σ : tq_S) (a1 : Int32) (a2 : Int32) (a3 : Int32) (a4 : Int32) (r : Int32) (σ' : tq_S) (hf : tq_fI st_Th_passOn (0, [a1, a2, a3, a4], [], σ) = some (r, σ')) : Met l y_Th_passOn w_Th_passOn ({ frames := 2, cells := 0, slots := 0, locals := 52 } : Room) (va_Pc [.ref (ad 4), .int a1, .int a2, .int a3, .int a4] (tq_B dC dI cI cL cZ tt (wo cI cL cZ ad σ) sz)) (va_Qi (fun (r' : Int32) (u : tq_S) => r' = r ∧ u = σ') (tq_E dC dI cI cL cZ (wo cI cL cZ ad) (va_A (wo cI cL cZ ad σ) sz)) (va_A (wo cI cL cZ ad σ) sz)) 0 0 (va_A (wo cI cL cZ ad σ) sz) := by
  obtain ⟨n0, h0⟩ := tq_fI_to hf
  refine Met.ofW (cc := prog_5_method_18_code) (maxL := 15) (ret := (some .boolean)) (by decide) rfl ?_
  intro p e s m args below meth c s₁ B hml hv
  obtain ⟨rfl, hsz, hP, hK, hD0, hZ, hN⟩ := hv
  have hx := B.exec
  have hb := B.bytes
  have hr := B.returns
  have hts : ∀ w ∈ tq_T, w.before _ s = true := fun w h => atoms_spec (ws := w_Th_passOn) B.pre w (List.mem_cons_of_mem _ h)
  have hown : s.vm.findClass "TableauNodes$Things" = some m.cls := findClass_of_methodNamed B.named
  have hlocks := B.notSynchronized
  subst hsz
  have hD := hD0.self (sz := s.heap.size)
  have hS : va_S (va_A (wo cI cL cZ ad σ) s.heap.size) s.heap s.heap [] := va_S.rf
  have hA : ∀ q : Nat, s.heap.size ≤ q → va_A (wo cI cL cZ ad σ) s.heap.size q := fun q h => Or.inr h
  generalize va_A (wo cI cL cZ ad σ) s.heap.size = A at hD hS hA hZ ⊢
  have hl := lv_entry ([.ref (ad 4), .int a1, .int a2, .int a3, .int a4]) (n := 15) (Nat.le_of_ble_eq_true rfl)
  rw [lg_entry_eq]
  generalize (lg_sl ([.ref (ad 4), .int a1, .int a2, .int a3, .int a4]) ++ List.replicate (15 - (lg_sl ([.ref (ad 4), .int a1, .int a2, .int a3, .int a4])).length) Slot.unset).toArray = ls at hl ⊢
  have hl : lv_has ls 15 [(0, .ref (ad 4)), (1, .int a1), (2, .int a2), (3, .int a3), (4, .int a4)] := hl
  have key : ∀ n : Nat, (∀ {x1 x2 x3 x4 : Int32} {σ : tq_S} {H : Heap} {locs : List Loc} {ls : Array Slot}, va_P (dC, dI) tq_cl (wo cI cL cZ ad σ) H → va_D A (wo cI cL cZ ad σ) → va_S A s.heap H locs → lv_has ls 15 [(0, .ref (ad 4)), (1, .int x1), (2, .int x2), (3, .int x3), (4, .int x4)] → tq_go st_Th_passOn n (0, [x1, x2, x3, x4], [], σ) = some (tq_rt, [r], [], σ') → W p l e (headSpec w_Th_passOn ({ frames := 2, cells := 0, slots := 0, locals := 52 } : Room)).room s m ([.ref (ad 4), .int a1, .int a2, .int a3, .int a4] : List Value).toArray below meth c H locs 0 0 (MQ below (va_Qi (fun (r' : Int32) (u : tq_S) => r' = r ∧ u = σ') (tq_E dC dI cI cL cZ (wo cI cL cZ ad) A) A) ([.ref (ad 4), .int a1, .int a2, .int a3, .int a4] : List Value).toArray s 0 0 A) (F0 m 0 ls [])) ∧ (∀ {x1 x2 x3 x4 x5 x6 : Int32} {σ : tq_S} {H : Heap} {locs : List Loc} {ls : Array Slot}, va_P (dC, dI) tq_cl (wo cI cL cZ ad σ) H → va_D A (wo cI cL cZ ad σ) → va_S A s.heap H locs → lv_has ls 15 [(0, .ref (ad 4)), (1, .int x1), (2, .int x2), (3, .int x3), (4, .int x4), (5, .int x5), (6, .int x6)] → tq_go st_Th_passOn n (10, [x1, x2, x3, x4, x5, x6], [], σ) = some (tq_rt, [r], [], σ') → W p l e (headSpec w_Th_passOn ({ frames := 2, cells := 0, slots := 0, locals := 52 } : Room)).room s m ([.ref (ad 4), .int a1, .int a2, .int a3, .int a4] : List Value).toArray below meth c H locs 0 0 (MQ below (va_Qi (fun (r' : Int32) (u : tq_S) => r' = r ∧ u = σ') (tq_E dC dI cI cL cZ (wo cI cL cZ ad) A) A) ([.ref (ad 4), .int a1, .int a2, .int a3, .int a4] : List Value).toArray s 0 0 A) (F0 m 10 ls [])) ∧ (∀ {x1 x2 x3 x4 x5 x6 x7 x8 x9 x12 : Int32} {y10 : Int64} {σ : tq_S} {H : Heap} {locs : List Loc} {ls : Array Slot}, va_P (dC, dI) tq_cl (wo cI cL cZ ad σ) H → va_D A (wo cI cL cZ ad σ) → va_S A s.heap H locs → lv_has ls 15 [(0, .ref (ad 4)), (1, .int x1), (2, .int x2), (3, .int x3), (4, .int x4), (5, .int x5), (6, .int x6), (7, .int x7), (8, .int x8), (9, .int x9), (10, .long y10), (12, .int x12)] → tq_go st_Th_passOn n (79, [x1, x2, x3, x4, x5, x6, x7, x8, x9, x12], [y10], σ) = some (tq_rt, [r], [], σ') → W p l e (headSpec w_Th_passOn ({ frames := 2, cells := 0, slots := 0, locals := 52 } : Room)).room s m ([.ref (ad 4), .int a1, .int a2, .int a3, .int a4] : List Value).toArray below meth c H locs 0 0 (MQ below (va_Qi (fun (r' : Int32) (u : tq_S) => r' = r ∧ u = σ') (tq_E dC dI cI cL cZ (wo cI cL cZ ad) A) A) ([.ref (ad 4), .int a1, .int a2, .int a3, .int a4] : List Value).toArray s 0 0 A) (F0 m 79 ls [])) := by
    intro n
    induction n with
    | zero => exact ⟨(fun _ _ _ _ h => by cases h), (fun _ _ _ _ h => by cases h), (fun _ _ _ _ h => by cases h)⟩
    | succ n ih =>
      refine ⟨?_, ?_, ?_⟩
      · intro x1 x2 x3 x4 σ H locs ls hP hD hS hl h9
        obtain ⟨q9, hg, hn⟩ := tq_go_s h9 (show ¬ (0 : Nat) = tq_rt by decide)
        replace hg : bk_Th_passOn_0 [x1, x2, x3, x4] [] σ = some q9 := hg
        unfold bk_Th_passOn_0 at hg
        refine lv_iload hx hb d_Th_passOn_0 (lv_at hl 4 rfl) ?_
        refine lv_bipush (v := 10) hx hb d_Th_passOn_2 (by decide) ?_
        refine lv_ishr hx hb d_Th_passOn_4 ?_
        obtain ⟨v1, ev1, hg⟩ := tq_lj_s hg
        refine tq_nmi ev1 ?_
        refine lv_istore (lv' := [(5, .int v1), (0, .ref (ad 4)), (1, .int x1), (2, .int x2), (3, .int x3), (4, .int x4)]) hx hb d_Th_passOn_5 hl (by decide) rfl (fun ls hl => ?_)
        refine lv_iconst (v := 0) hx hb d_Th_passOn_7 (by decide) ?_
        refine lv_istore (lv' := [(6, .int 0), (5, .int v1), (0, .ref (ad 4)), (1, .int x1), (2, .int x2), (3, .int x3), (4, .int x4)]) hx hb d_Th_passOn_8 hl (by decide) rfl (fun ls hl => ?_)
        exact ih.2.1 hP hD hS (lv_sub hl [2, 3, 4, 5, 6, 1, 0] rfl) (tq_gi hg hn)
      · intro x1 x2 x3 x4 x5 x6 σ H locs ls hP hD hS hl h9
        obtain ⟨q9, hg, hn⟩ := tq_go_s h9 (show ¬ (10 : Nat) = tq_rt by decide)
        replace hg : bk_Th_passOn_10 [x1, x2, x3, x4, x5, x6] [] σ = some q9 := hg
        unfold bk_Th_passOn_10 at hg
        refine lv_iload hx hb d_Th_passOn_10 (lv_at hl 6 rfl) ?_
        refine lv_iconst (v := 5) hx hb d_Th_passOn_12 (by decide) ?_
        refine lv_icmp_ge (tgt := 153) hx hb d_Th_passOn_13 (by decide) (fun c2 => ?_) (fun c2 => ?_)
        · replace hg := tq_if_t c2 hg
          refine lv_iconst (v := 1) hx hb d_Th_passOn_153 (by decide) ?_
          exact W.zret (v := 1) hx hb hr rfl (fun t ht hW => ⟨⟨1, σ, rfl, tq_grI hg hn, by rw [ht]; exact hP, va_K.moved hW.alike hK, hD⟩, hS.F ht⟩) hS.2.2 d_Th_passOn_154
        · replace hg := tq_if_f c2 hg
          refine lv_iload_n hx hb d_Th_passOn_16 rfl (lv_at hl 3 rfl) ?_
          refine lv_i2l hx hb d_Th_passOn_17 rfl ?_
          refine lv_iload hx hb d_Th_passOn_18 (lv_at hl 6 rfl) ?_
          obtain ⟨r4, σ5, f3, hg⟩ := tq_ob_s hg
          refine tq_aI (va_runSN (As := [.long x3.toInt64, .int x6]) (rest := []) ⟨hx, hb, hml, hown, hts⟩ (c_Tn_hasBit l dC dI cI cL cZ ad tt H.size σ x6 x3.toInt64 r4 σ5 f3) ⟨va_cnB 2 hts (tq_gC tw_62) rfl rfl rfl (hN _ (List.mem_of_getElem? (i := 8) rfl)) (hts _ tw_1) (by decide +kernel) ⟨Nat.le_of_ble_eq_true rfl, Nat.le_of_ble_eq_true rfl⟩, hts _ tw_61, trivial⟩ ⟨tq_bl, (tq_pr hP hK hD hS hA hZ hN)⟩ rfl rfl hl.1 rfl (lv_room (Nat.le_of_ble_eq_true rfl)) d_Th_passOn_20 ⟨Nat.zero_le _, Nat.zero_le _⟩) hD hS hA (fun H locs hP hD hS => ?_)
          refine lv_if_ne (tgt := 29) hx hb d_Th_passOn_23 (by decide) (fun c6 => ?_) (fun c6 => ?_)
          · replace hg := tq_if_t c6 hg
            refine lv_iload hx hb d_Th_passOn_29 (lv_at hl 4 rfl) ?_
            refine lv_aload_n hx hb d_Th_passOn_31 rfl (lv_at hl 0 rfl) ?_
            refine va_get (D := (dC, dI)) (ci := 4) (v := .ref (ad 25)) (C := "TableauNodes$Things") (T := F_Th) (N := 15) hx hb hts in_Th hown hK hP 4 rfl rfl 4 (by decide) (hts _ tw_178) (fun _ h9 => h9) rfl d_Th_passOn_32 ?_
            refine lv_iload hx hb d_Th_passOn_35 (lv_at hl 6 rfl) ?_
            refine lv_iconst (v := 5) hx hb d_Th_passOn_37 (by decide) ?_
            refine lv_imul hx hb d_Th_passOn_38 ?_
            refine lv_iload_n hx hb d_Th_passOn_39 rfl (lv_at hl 2 rfl) ?_
            refine lv_iadd hx hb d_Th_passOn_40 ?_
            obtain ⟨g7, hg⟩ := tq_gd_s hg
            refine va_iald hx hb hK hP 25 0 rfl rfl g7 d_Th_passOn_41 ?_
            refine lv_iand hx hb d_Th_passOn_42 ?_
            obtain ⟨v8, ev8, hg⟩ := tq_lj_s hg
            refine tq_nmi ev8 ?_
            refine lv_istore (lv' := [(7, .int v8), (0, .ref (ad 4)), (1, .int x1), (2, .int x2), (3, .int x3), (4, .int x4), (5, .int x5), (6, .int x6)]) hx hb d_Th_passOn_43 hl (by decide) rfl (fun ls hl => ?_)
            refine lv_iload hx hb d_Th_passOn_45 (lv_at hl 6 rfl) ?_
            refine lv_aload_n hx hb d_Th_passOn_47 rfl (lv_at hl 1 rfl) ?_
            refine va_get (D := (dC, dI)) (ci := 4) (v := .ref (ad 25)) (C := "TableauNodes$Things") (T := F_Th) (N := 15) hx hb hts in_Th hown hK hP 4 rfl rfl 4 (by decide) (hts _ tw_178) (fun _ h9 => h9) rfl d_Th_passOn_48 ?_
            refine lv_iload_n hx hb d_Th_passOn_51 rfl (lv_at hl 3 rfl) ?_
            refine lv_iconst (v := 5) hx hb d_Th_passOn_52 (by decide) ?_
            refine lv_imul hx hb d_Th_passOn_53 ?_
            refine lv_iload hx hb d_Th_passOn_54 (lv_at hl 7 rfl) ?_
            refine lv_iadd hx hb d_Th_passOn_56 ?_
            obtain ⟨g9, hg⟩ := tq_gd_s hg
            refine va_iald hx hb hK hP 25 0 rfl rfl g9 d_Th_passOn_57 ?_
            refine lv_iand hx hb d_Th_passOn_58 ?_
            obtain ⟨v10, ev10, hg⟩ := tq_lj_s hg
            refine tq_nmi ev10 ?_
            refine lv_istore (lv' := [(8, .int v10), (7, .int v8), (0, .ref (ad 4)), (1, .int x1), (2, .int x2), (3, .int x3), (4, .int x4), (5, .int x5), (6, .int x6)]) hx hb d_Th_passOn_59 hl (by decide) rfl (fun ls hl => ?_)
            refine lv_iload_n hx hb d_Th_passOn_61 rfl (lv_at hl 3 rfl) ?_
            refine lv_bipush (v := 80) hx hb d_Th_passOn_62 (by decide) ?_
            refine lv_imul hx hb d_Th_passOn_64 ?_
            refine lv_iload hx hb d_Th_passOn_65 (lv_at hl 8 rfl) ?_
            refine lv_bipush (v := 16) hx hb d_Th_passOn_67 (by decide) ?_
            refine lv_imul hx hb d_Th_passOn_69 ?_
            refine lv_iadd hx hb d_Th_passOn_70 ?_
            obtain ⟨v11, ev11, hg⟩ := tq_lj_s hg
            refine tq_nmi ev11 ?_
            refine lv_istore (lv' := [(9, .int v11), (8, .int v10), (7, .int v8), (0, .ref (ad 4)), (1, .int x1), (2, .int x2), (3, .int x3), (4, .int x4), (5, .int x5), (6, .int x6)]) hx hb d_Th_passOn_71 hl (by decide) rfl (fun ls hl => ?_)
            refine lv_lconst (v := 0) hx hb d_Th_passOn_73 (by decide) ?_
            refine lv_lstore (lv' := [(10, .long 0), (9, .int v11), (8, .int v10), (7, .int v8), (0, .ref (ad 4)), (1, .int x1), (2, .int x2), (3, .int x3), (4, .int x4), (5, .int x5), (6, .int x6)]) hx hb d_Th_passOn_74 hl (by decide) rfl (fun ls hl => ?_)
            refine lv_iconst (v := 0) hx hb d_Th_passOn_76 (by decide) ?_
            refine lv_istore (lv' := [(12, .int 0), (10, .long 0), (9, .int v11), (8, .int v10), (7, .int v8), (0, .ref (ad 4)), (1, .int x1), (2, .int x2), (3, .int x3), (4, .int x4), (5, .int x5), (6, .int x6)]) hx hb d_Th_passOn_77 hl (by decide) rfl (fun ls hl => ?_)
            exact ih.2.2 hP hD hS (lv_sub hl [5, 6, 7, 8, 9, 10, 11, 4, 3, 2, 1, 0] rfl) (tq_gi hg hn)
          · replace hg := tq_if_n c6 hg
            refine lv_goto (tgt := 147) hx hb d_Th_passOn_26 (by decide) ?_
            obtain ⟨v12, ev12, hg⟩ := tq_lj_s hg
            refine lv_iinc (v := v12) (lv' := [(6, .int v12), (0, .ref (ad 4)), (1, .int x1), (2, .int x2), (3, .int x3), (4, .int x4), (5, .int x5)]) hx hb d_Th_passOn_147 hl (k := 6) rfl (by rw [ev12]; rfl) (by decide) rfl (fun ls hl => ?_)
            refine lv_goto (tgt := 10) hx hb d_Th_passOn_150 (by decide) ?_
            exact ih.2.1 hP hD hS (lv_sub hl [1, 2, 3, 4, 5, 6, 0] rfl) (tq_gi hg hn)
      · intro x1 x2 x3 x4 x5 x6 x7 x8 x9 x12 y10 σ H locs ls hP hD hS hl h9
        obtain ⟨q9, hg, hn⟩ := tq_go_s h9 (show ¬ (79 : Nat) = tq_rt by decide)
        replace hg : bk_Th_passOn_79 [x1, x2, x3, x4, x5, x6, x7, x8, x9, x12] [y10] σ = some q9 := hg
        unfold bk_Th_passOn_79 at hg
        refine lv_iload hx hb d_Th_passOn_79 (lv_at hl 11 rfl) ?_
        refine lv_aload_n hx hb d_Th_passOn_81 rfl (lv_at hl 0 rfl) ?_
        refine va_get (D := (dC, dI)) (ci := 4) (v := .int (σ.2.2 9)) (C := "TableauNodes$Things") (T := F_Th) (N := 15) hx hb hts in_Th hown hK hP 4 rfl rfl 10 (by decide) (hts _ tw_184) (fun _ h9 => h9) rfl d_Th_passOn_82 ?_
        refine lv_icmp_ge (tgt := 138) hx hb d_Th_passOn_85 (by decide) (fun c13 => ?_) (fun c13 => ?_)
        · replace hg := tq_if_t c13 hg
          refine lv_lload hx hb d_Th_passOn_138 (lv_at hl 10 rfl) ?_
          refine lv_lconst (v := 0) hx hb d_Th_passOn_140 (by decide) ?_
          refine W.lcmp hx hb d_Th_passOn_141 ?_
          refine lv_if_ne (tgt := 147) hx hb d_Th_passOn_142 (by decide) (fun c14 => ?_) (fun c14 => ?_)
          · replace hg := tq_if_t c14 hg
            obtain ⟨v15, ev15, hg⟩ := tq_lj_s hg
            refine lv_iinc (v := v15) (lv' := [(6, .int v15), (0, .ref (ad 4)), (1, .int x1), (2, .int x2), (3, .int x3), (4, .int x4), (5, .int x5), (7, .int x7), (8, .int x8), (9, .int x9), (10, .long y10), (12, .int x12)]) hx hb d_Th_passOn_147 hl (k := 6) rfl (by rw [ev15]; rfl) (by decide) rfl (fun ls hl => ?_)
            refine lv_goto (tgt := 10) hx hb d_Th_passOn_150 (by decide) ?_
            exact ih.2.1 hP hD hS (lv_sub hl [1, 2, 3, 4, 5, 6, 0] rfl) (tq_gi hg hn)
          · replace hg := tq_if_n c14 hg
            refine lv_iconst (v := 0) hx hb d_Th_passOn_145 (by decide) ?_
            exact W.zret (v := 0) hx hb hr rfl (fun t ht hW => ⟨⟨0, σ, rfl, tq_grI hg hn, by rw [ht]; exact hP, va_K.moved hW.alike hK, hD⟩, hS.F ht⟩) hS.2.2 d_Th_passOn_146
        · replace hg := tq_if_f c13 hg
          refine lv_aload_n hx hb d_Th_passOn_88 rfl (lv_at hl 0 rfl) ?_
          refine lv_aload_n hx hb d_Th_passOn_89 rfl (lv_at hl 0 rfl) ?_
          refine va_get (D := (dC, dI)) (ci := 4) (v := .ref (ad 26)) (C := "TableauNodes$Things") (T := F_Th) (N := 15) hx hb hts in_Th hown hK hP 4 rfl rfl 7 (by decide) (hts _ tw_181) (fun _ h9 => h9) rfl d_Th_passOn_90 ?_
          refine lv_iload hx hb d_Th_passOn_93 (lv_at hl 9 rfl) ?_
          refine lv_iload hx hb d_Th_passOn_95 (lv_at hl 11 rfl) ?_
          refine lv_iadd hx hb d_Th_passOn_97 ?_
          obtain ⟨g16, hg⟩ := tq_gd_s hg
          refine va_lald hx hb hK hP 26 1 rfl rfl g16 d_Th_passOn_98 ?_
          refine lv_iload hx hb d_Th_passOn_99 (lv_at hl 7 rfl) ?_
          refine lv_iload hx hb d_Th_passOn_101 (lv_at hl 8 rfl) ?_
          refine lv_iload hx hb d_Th_passOn_103 (lv_at hl 11 rfl) ?_
          obtain ⟨r18, σ19, f17, hg⟩ := tq_ob_s hg
          refine tq_aL (va_runV (As := [.long (la σ 5 (x9 + x12)), .int x7, .int x8, .int x12]) (rest := []) ⟨hx, hb, hml, hown, hts⟩ (c_Th_fitting l dC dI cI cL cZ ad tt H.size σ x7 x8 x12 (la σ 5 (x9 + x12)) r18 σ19 f17) (cwV 4 hts (tq_gV tw_536 tw_538 ts_25 tw_5 tw_539) rfl rfl rfl (by decide +kernel) ⟨Nat.le_of_ble_eq_true rfl, Nat.le_of_ble_eq_true rfl⟩) ⟨tq_bl, va_recv hK hP (ci := 4) (q0 := 4) rfl rfl, (tq_pr hP hK hD hS hA hZ hN)⟩ rfl rfl hl.1 rfl (lv_room (Nat.le_of_ble_eq_true rfl)) d_Th_passOn_105 ⟨Nat.zero_le _, Nat.zero_le _⟩) hD hS hA (fun H locs hP hD hS => ?_)
          refine lv_lstore (lv' := [(13, .long r18), (0, .ref (ad 4)), (1, .int x1), (2, .int x2), (3, .int x3), (4, .int x4), (5, .int x5), (6, .int x6), (7, .int x7), (8, .int x8), (9, .int x9), (10, .long y10), (12, .int x12)]) hx hb d_Th_passOn_108 hl (by decide) rfl (fun ls hl => ?_)
          refine lv_aload_n hx hb d_Th_passOn_110 rfl (lv_at hl 1 rfl) ?_
          refine va_get (D := (dC, dI)) (ci := 4) (v := .ref (ad 26)) (C := "TableauNodes$Things") (T := F_Th) (N := 15) hx hb hts in_Th hown hK hP 4 rfl rfl 7 (by decide) (hts _ tw_181) (fun _ h9 => h9) rfl d_Th_passOn_111 ?_
          refine lv_iload hx hb d_Th_passOn_114 (lv_at hl 10 rfl) ?_
          refine lv_bipush (v := 80) hx hb d_Th_passOn_116 (by decide) ?_
          refine lv_iadd hx hb d_Th_passOn_118 ?_
          refine lv_iload hx hb d_Th_passOn_119 (lv_at hl 12 rfl) ?_
          refine lv_iadd hx hb d_Th_passOn_121 ?_
          refine lv_lload hx hb d_Th_passOn_122 (lv_at hl 0 rfl) ?_
          obtain ⟨g20, hg⟩ := tq_gd_s hg
          refine va_last hx hb hK hP hD hS 26 1 rfl rfl g20 d_Th_passOn_124 (fun H locs hP hD hS => ?_)
          obtain ⟨σ21, eσ21, hg⟩ := tq_lj_s hg
          replace hP : va_P (dC, dI) tq_cl (wo cI cL cZ ad σ21) H := by rw [eσ21, ← ws_l5]; exact hP
          replace hD : va_D A (wo cI cL cZ ad σ21) := by rw [eσ21, ← ws_l5]; exact hD
          refine lv_lload hx hb d_Th_passOn_125 (lv_at hl 11 rfl) ?_
          refine lv_lload hx hb d_Th_passOn_127 (lv_at hl 0 rfl) ?_
          refine lv_lor hx hb d_Th_passOn_129 ?_
          obtain ⟨v22, ev22, hg⟩ := tq_lj_s hg
          refine tq_nml ev22 ?_
          refine lv_lstore (lv' := [(10, .long v22), (13, .long r18), (0, .ref (ad 4)), (1, .int x1), (2, .int x2), (3, .int x3), (4, .int x4), (5, .int x5), (6, .int x6), (7, .int x7), (8, .int x8), (9, .int x9), (12, .int x12)]) hx hb d_Th_passOn_130 hl (by decide) rfl (fun ls hl => ?_)
          obtain ⟨v23, ev23, hg⟩ := tq_lj_s hg
          refine lv_iinc (v := v23) (lv' := [(12, .int v23), (10, .long v22), (13, .long r18), (0, .ref (ad 4)), (1, .int x1), (2, .int x2), (3, .int x3), (4, .int x4), (5, .int x5), (6, .int x6), (7, .int x7), (8, .int x8), (9, .int x9)]) hx hb d_Th_passOn_132 hl (k := 12) rfl (by rw [ev23]; rfl) (by decide) rfl (fun ls hl => ?_)
          refine lv_goto (tgt := 79) hx hb d_Th_passOn_135 (by decide) ?_
          exact ih.2.2 hP hD hS (lv_sub hl [3, 4, 5, 6, 7, 8, 9, 10, 11, 12, 1, 0] rfl) (tq_gi hg hn)
  exact (key n0).1 hP hD hS hl h0
noncomputable def bk_Th_canExtend_0 (rec : tq_C → Option (Int32 × tq_S)) : List Int32 → List Int64 → tq_S → Option tq_C
  | [x1, x2], [], σ => tq_ob (tq_fI st_Ji_bitCount (0, [x2], [], σ)) (fun r2 σ3 => if 2 ≤ r2 then if (x1 + 1) < 5 then tq_ob (tq_fI st_Th_mostBound (0, [x1, x2], [], σ3)) (fun r7 σ8 => tq_lj (x2 &&& ((1 <<< (r7 &&& 31)) ^^^ (-1))) (fun v9 => tq_ob (tq_fI st_Th_findDemands (0, [x1, r7, v9], [], σ8)) (fun r11 σ12 => some (48, [x1, r7, v9, r11, 0], [], σ12)))) else some (tq_rt, [0], [], σ3) else some (tq_rt, [1], [], σ3))
  | _, _, _ => none
noncomputable def bk_Th_canExtend_48 (rec : tq_C → Option (Int32 × tq_S)) : List Int32 → List Int64 → tq_S → Option tq_C
  | [x1, x3, x4, x5, x6], [], σ => if x5 ≤ x6 then some (tq_rt, [0], [], σ) else tq_gd ((x1 * 1024) + x6) 4096 (tq_lj (ia σ 15 ((x1 * 1024) + x6)) (fun v15 => tq_ob (tq_fI st_Th_passOn (0, [x1, x3, x4, v15], [], σ)) (fun r17 σ18 => if r17 = 0 then tq_lj (x6 + 1) (fun v20 => some (48, [x1, x3, x4, x5, v20], [], σ18)) else tq_ob (rec (0, [(x1 + 1), x4], [], σ18)) (fun r22 σ23 => if r22 = 0 then tq_lj (x6 + 1) (fun v25 => some (48, [x1, x3, x4, x5, v25], [], σ23)) else some (tq_rt, [1], [], σ23)))))
  | _, _, _ => none
noncomputable def st_Th_canExtend (rec : tq_C → Option (Int32 × tq_S)) (c : tq_C) : Option tq_C := if c.1 = 0 then bk_Th_canExtend_0 rec c.2.1 c.2.2.1 c.2.2.2 else if c.1 = 48 then bk_Th_canExtend_48 rec c.2.1 c.2.2.1 c.2.2.2 else none
noncomputable def fx_canExtend : Nat → tq_C → Option (Int32 × tq_S)
  | 0, _ => none
  | d + 1, c => tq_fI (st_Th_canExtend (fx_canExtend d)) c
set_option maxHeartbeats 40000000 in
set_option maxRecDepth 100000 in
theorem c_Th_canExtend (l : Launch) (dC : Nat → ClassId) (dI : Nat → Nat → Nat) (cI cL cZ : ClassId) (ad : Nat → Nat) (tt : Nat) : ∀ (d : Nat) (sz : Nat) (σ : tq_S) (a1 : Int32) (a2 : Int32) (r : Int32) (σ' : tq_S) (hf : fx_canExtend d (0, [a1, a2], [], σ) = some (r, σ')), Met l y_Th_canExtend w_Th_canExtend ({ frames := 3 + d, cells := 0, slots := 0, locals := 86 + d * 27 } : Room) (va_Pc [.ref (ad 4), .int a1, .int a2] (tq_B dC dI cI cL cZ tt (wo cI cL cZ ad σ) sz)) (va_Qi (fun (r' : Int32) (u : tq_S) => r' = r ∧ u = σ') (tq_E dC dI cI cL cZ (wo cI cL cZ ad) (va_A (wo cI cL cZ ad σ) sz)) (va_A (wo cI cL cZ ad σ) sz)) 0 0 (va_A (wo cI cL cZ ad σ) sz) := by
  intro d
  induction d with
  | zero => intro sz σ a1 a2 r σ' hf; cases hf
  | succ d ihd =>
    intro sz σ a1 a2 r σ' hf
    obtain ⟨n0, h0⟩ := tq_fI_to (st := (st_Th_canExtend (fx_canExtend d))) hf
    refine Met.ofW (cc := prog_5_method_14_code) (maxL := 8) (ret := (some .boolean)) (by decide) rfl ?_
    intro p e s m args below meth c s₁ B hml hv
    obtain ⟨rfl, hsz, hP, hK, hD0, hZ, hN⟩ := hv
    have hx := B.exec
    have hb := B.bytes
    have hr := B.returns
    have hts : ∀ w ∈ tq_T, w.before _ s = true := fun w h => atoms_spec (ws := w_Th_canExtend) B.pre w (List.mem_cons_of_mem _ h)
    have hown : s.vm.findClass "TableauNodes$Things" = some m.cls := findClass_of_methodNamed B.named
    have hlocks := B.notSynchronized
    subst hsz
    have hD := hD0.self (sz := s.heap.size)
    have hS : va_S (va_A (wo cI cL cZ ad σ) s.heap.size) s.heap s.heap [] := va_S.rf
    have hA : ∀ q : Nat, s.heap.size ≤ q → va_A (wo cI cL cZ ad σ) s.heap.size q := fun q h => Or.inr h
    generalize va_A (wo cI cL cZ ad σ) s.heap.size = A at hD hS hA hZ ⊢
    have hl := lv_entry ([.ref (ad 4), .int a1, .int a2]) (n := 8) (Nat.le_of_ble_eq_true rfl)
    rw [lg_entry_eq]
    generalize (lg_sl ([.ref (ad 4), .int a1, .int a2]) ++ List.replicate (8 - (lg_sl ([.ref (ad 4), .int a1, .int a2])).length) Slot.unset).toArray = ls at hl ⊢
    have hl : lv_has ls 8 [(0, .ref (ad 4)), (1, .int a1), (2, .int a2)] := hl
    have key : ∀ n : Nat, (∀ {x1 x2 : Int32} {σ : tq_S} {H : Heap} {locs : List Loc} {ls : Array Slot}, va_P (dC, dI) tq_cl (wo cI cL cZ ad σ) H → va_D A (wo cI cL cZ ad σ) → va_S A s.heap H locs → lv_has ls 8 [(0, .ref (ad 4)), (1, .int x1), (2, .int x2)] → tq_go (st_Th_canExtend (fx_canExtend d)) n (0, [x1, x2], [], σ) = some (tq_rt, [r], [], σ') → W p l e (headSpec w_Th_canExtend ({ frames := 3 + (d + 1), cells := 0, slots := 0, locals := 86 + (d + 1) * 27 } : Room)).room s m ([.ref (ad 4), .int a1, .int a2] : List Value).toArray below meth c H locs 0 0 (MQ below (va_Qi (fun (r' : Int32) (u : tq_S) => r' = r ∧ u = σ') (tq_E dC dI cI cL cZ (wo cI cL cZ ad) A) A) ([.ref (ad 4), .int a1, .int a2] : List Value).toArray s 0 0 A) (F0 m 0 ls [])) ∧ (∀ {x1 x3 x4 x5 x6 : Int32} {σ : tq_S} {H : Heap} {locs : List Loc} {ls : Array Slot}, va_P (dC, dI) tq_cl (wo cI cL cZ ad σ) H → va_D A (wo cI cL cZ ad σ) → va_S A s.heap H locs → lv_has ls 8 [(0, .ref (ad 4)), (1, .int x1), (3, .int x3), (4, .int x4), (5, .int x5), (6, .int x6)] → tq_go (st_Th_canExtend (fx_canExtend d)) n (48, [x1, x3, x4, x5, x6], [], σ) = some (tq_rt, [r], [], σ') → W p l e (headSpec w_Th_canExtend ({ frames := 3 + (d + 1), cells := 0, slots := 0, locals := 86 + (d + 1) * 27 } : Room)).room s m ([.ref (ad 4), .int a1, .int a2] : List Value).toArray below meth c H locs 0 0 (MQ below (va_Qi (fun (r' : Int32) (u : tq_S) => r' = r ∧ u = σ') (tq_E dC dI cI cL cZ (wo cI cL cZ ad) A) A) ([.ref (ad 4), .int a1, .int a2] : List Value).toArray s 0 0 A) (F0 m 48 ls [])) := by
      intro n
      induction n with
      | zero => exact ⟨(fun _ _ _ _ h => by cases h), (fun _ _ _ _ h => by cases h)⟩
      | succ n ih =>
        refine ⟨?_, ?_⟩
        · intro x1 x2 σ H locs ls hP hD hS hl h9
          obtain ⟨q9, hg, hn⟩ := tq_go_s h9 (show ¬ (0 : Nat) = tq_rt by decide)
          replace hg : bk_Th_canExtend_0 (fx_canExtend d) [x1, x2] [] σ = some q9 := hg
          unfold bk_Th_canExtend_0 at hg
          refine lv_iload_n hx hb d_Th_canExtend_0 rfl (lv_at hl 2 rfl) ?_
          obtain ⟨r2, σ3, f1, hg⟩ := tq_ob_s hg
          refine tq_aI (va_runS (As := [.int x2]) (rest := []) ⟨hx, hb, hml, hown, hts⟩ (c_Ji_bitCount l dC dI cI cL cZ ad tt H.size σ x2  r2 σ3 f1) (va_cwS 1 hts (tq_gS tw_512 tw_375 tw_7 tw_376) rfl rfl rfl (by decide +kernel) ⟨by dsimp only [headSpec]; omega, by dsimp only [headSpec]; omega⟩) ⟨tq_bl, (tq_pr hP hK hD hS hA hZ hN)⟩ rfl rfl hl.1 rfl (lv_room (Nat.le_of_ble_eq_true rfl)) d_Th_canExtend_1 ⟨Nat.zero_le _, Nat.zero_le _⟩) hD hS hA (fun H locs hP hD hS => ?_)
          refine lv_iconst (v := 2) hx hb d_Th_canExtend_4 (by decide) ?_
          refine lv_icmp_ge (tgt := 10) hx hb d_Th_canExtend_5 (by decide) (fun c4 => ?_) (fun c4 => ?_)
          · replace hg := tq_if_t c4 hg
            refine lv_iload_n hx hb d_Th_canExtend_10 rfl (lv_at hl 1 rfl) ?_
            refine lv_iconst (v := 1) hx hb d_Th_canExtend_11 (by decide) ?_
            refine lv_iadd hx hb d_Th_canExtend_12 ?_
            refine lv_iconst (v := 5) hx hb d_Th_canExtend_13 (by decide) ?_
            refine lv_icmp_lt (tgt := 19) hx hb d_Th_canExtend_14 (by decide) (fun c5 => ?_) (fun c5 => ?_)
            · replace hg := tq_if_t c5 hg
              refine lv_aload_n hx hb d_Th_canExtend_19 rfl (lv_at hl 0 rfl) ?_
              refine lv_iload_n hx hb d_Th_canExtend_20 rfl (lv_at hl 1 rfl) ?_
              refine lv_iload_n hx hb d_Th_canExtend_21 rfl (lv_at hl 2 rfl) ?_
              obtain ⟨r7, σ8, f6, hg⟩ := tq_ob_s hg
              refine tq_aI (va_runV (As := [.int x1, .int x2]) (rest := []) ⟨hx, hb, hml, hown, hts⟩ (c_Th_mostBound l dC dI cI cL cZ ad tt H.size σ3 x1 x2  r7 σ8 f6) (cwV 2 hts (tq_gV tw_513 tw_515 ts_20 tw_5 tw_516) rfl rfl rfl (by decide +kernel) ⟨by dsimp only [headSpec]; omega, by dsimp only [headSpec]; omega⟩) ⟨tq_bl, va_recv hK hP (ci := 4) (q0 := 4) rfl rfl, (tq_pr hP hK hD hS hA hZ hN)⟩ rfl rfl hl.1 rfl (lv_room (Nat.le_of_ble_eq_true rfl)) d_Th_canExtend_22 ⟨Nat.zero_le _, Nat.zero_le _⟩) hD hS hA (fun H locs hP hD hS => ?_)
              refine lv_istore_n (lv' := [(3, .int r7), (0, .ref (ad 4)), (1, .int x1), (2, .int x2)]) hx hb d_Th_canExtend_25 rfl hl (by decide) rfl (fun ls hl => ?_)
              refine lv_iload_n hx hb d_Th_canExtend_26 rfl (lv_at hl 3 rfl) ?_
              refine lv_iconst (v := 1) hx hb d_Th_canExtend_27 (by decide) ?_
              refine lv_iload_n hx hb d_Th_canExtend_28 rfl (lv_at hl 0 rfl) ?_
              refine lv_ishl hx hb d_Th_canExtend_29 ?_
              refine lv_iconst (v := (-1)) hx hb d_Th_canExtend_30 (by decide) ?_
              refine lv_ixor hx hb d_Th_canExtend_31 ?_
              refine lv_iand hx hb d_Th_canExtend_32 ?_
              obtain ⟨v9, ev9, hg⟩ := tq_lj_s hg
              refine tq_nmi ev9 ?_
              refine lv_istore (lv' := [(4, .int v9), (3, .int r7), (0, .ref (ad 4)), (1, .int x1), (2, .int x2)]) hx hb d_Th_canExtend_33 hl (by decide) rfl (fun ls hl => ?_)
              refine lv_aload_n hx hb d_Th_canExtend_35 rfl (lv_at hl 2 rfl) ?_
              refine lv_iload_n hx hb d_Th_canExtend_36 rfl (lv_at hl 3 rfl) ?_
              refine lv_iload_n hx hb d_Th_canExtend_37 rfl (lv_at hl 1 rfl) ?_
              refine lv_iload hx hb d_Th_canExtend_38 (lv_at hl 0 rfl) ?_
              obtain ⟨r11, σ12, f10, hg⟩ := tq_ob_s hg
              refine tq_aI (va_runV (As := [.int x1, .int r7, .int v9]) (rest := []) ⟨hx, hb, hml, hown, hts⟩ (c_Th_findDemands l dC dI cI cL cZ ad tt H.size σ8 x1 r7 v9  r11 σ12 f10) (cwV 3 hts (tq_gV tw_522 tw_524 ts_22 tw_5 tw_525) rfl rfl rfl (by decide +kernel) ⟨by dsimp only [headSpec]; omega, by dsimp only [headSpec]; omega⟩) ⟨tq_bl, va_recv hK hP (ci := 4) (q0 := 4) rfl rfl, (tq_pr hP hK hD hS hA hZ hN)⟩ rfl rfl hl.1 rfl (lv_room (Nat.le_of_ble_eq_true rfl)) d_Th_canExtend_40 ⟨Nat.zero_le _, Nat.zero_le _⟩) hD hS hA (fun H locs hP hD hS => ?_)
              refine lv_istore (lv' := [(5, .int r11), (4, .int v9), (3, .int r7), (0, .ref (ad 4)), (1, .int x1), (2, .int x2)]) hx hb d_Th_canExtend_43 hl (by decide) rfl (fun ls hl => ?_)
              refine lv_iconst (v := 0) hx hb d_Th_canExtend_45 (by decide) ?_
              refine lv_istore (lv' := [(6, .int 0), (5, .int r11), (4, .int v9), (3, .int r7), (0, .ref (ad 4)), (1, .int x1), (2, .int x2)]) hx hb d_Th_canExtend_46 hl (by decide) rfl (fun ls hl => ?_)
              exact ih.2 hP hD hS (lv_sub hl [4, 5, 3, 2, 1, 0] rfl) (tq_gi hg hn)
            · replace hg := tq_if_f c5 hg
              refine lv_iconst (v := 0) hx hb d_Th_canExtend_17 (by decide) ?_
              exact W.zret (v := 0) hx hb hr rfl (fun t ht hW => ⟨⟨0, σ3, rfl, tq_grI hg hn, by rw [ht]; exact hP, va_K.moved hW.alike hK, hD⟩, hS.F ht⟩) hS.2.2 d_Th_canExtend_18
          · replace hg := tq_if_f c4 hg
            refine lv_iconst (v := 1) hx hb d_Th_canExtend_8 (by decide) ?_
            exact W.zret (v := 1) hx hb hr rfl (fun t ht hW => ⟨⟨1, σ3, rfl, tq_grI hg hn, by rw [ht]; exact hP, va_K.moved hW.alike hK, hD⟩, hS.F ht⟩) hS.2.2 d_Th_canExtend_9
        · intro x1 x3 x4 x5 x6 σ H locs ls hP hD hS hl h9
          obtain ⟨q9, hg, hn⟩ := tq_go_s h9 (show ¬ (48 : Nat) = tq_rt by decide)
          replace hg : bk_Th_canExtend_48 (fx_canExtend d) [x1, x3, x4, x5, x6] [] σ = some q9 := hg
          unfold bk_Th_canExtend_48 at hg
          refine lv_iload hx hb d_Th_canExtend_48 (lv_at hl 5 rfl) ?_
          refine lv_iload hx hb d_Th_canExtend_50 (lv_at hl 4 rfl) ?_
          refine lv_icmp_ge (tgt := 103) hx hb d_Th_canExtend_52 (by decide) (fun c13 => ?_) (fun c13 => ?_)
          · replace hg := tq_if_t c13 hg
            refine lv_iconst (v := 0) hx hb d_Th_canExtend_103 (by decide) ?_
            exact W.zret (v := 0) hx hb hr rfl (fun t ht hW => ⟨⟨0, σ, rfl, tq_grI hg hn, by rw [ht]; exact hP, va_K.moved hW.alike hK, hD⟩, hS.F ht⟩) hS.2.2 d_Th_canExtend_104
          · replace hg := tq_if_f c13 hg
            refine lv_aload_n hx hb d_Th_canExtend_55 rfl (lv_at hl 0 rfl) ?_
            refine va_get (D := (dC, dI)) (ci := 4) (v := .ref (ad 27)) (C := "TableauNodes$Things") (T := F_Th) (N := 15) hx hb hts in_Th hown hK hP 4 rfl rfl 8 (by decide) (hts _ tw_182) (fun _ h9 => h9) rfl d_Th_canExtend_56 ?_
            refine lv_iload_n hx hb d_Th_canExtend_59 rfl (lv_at hl 1 rfl) ?_
            refine lv_sipush (v := 1024) hx hb d_Th_canExtend_60 (by decide) ?_
            refine lv_imul hx hb d_Th_canExtend_63 ?_
            refine lv_iload hx hb d_Th_canExtend_64 (lv_at hl 5 rfl) ?_
            refine lv_iadd hx hb d_Th_canExtend_66 ?_
            obtain ⟨g14, hg⟩ := tq_gd_s hg
            refine va_iald hx hb hK hP 27 0 rfl rfl g14 d_Th_canExtend_67 ?_
            obtain ⟨v15, ev15, hg⟩ := tq_lj_s hg
            refine tq_nmi ev15 ?_
            refine lv_istore (lv' := [(7, .int v15), (0, .ref (ad 4)), (1, .int x1), (3, .int x3), (4, .int x4), (5, .int x5), (6, .int x6)]) hx hb d_Th_canExtend_68 hl (by decide) rfl (fun ls hl => ?_)
            refine lv_aload_n hx hb d_Th_canExtend_70 rfl (lv_at hl 1 rfl) ?_
            refine lv_iload_n hx hb d_Th_canExtend_71 rfl (lv_at hl 2 rfl) ?_
            refine lv_iload_n hx hb d_Th_canExtend_72 rfl (lv_at hl 3 rfl) ?_
            refine lv_iload hx hb d_Th_canExtend_73 (lv_at hl 4 rfl) ?_
            refine lv_iload hx hb d_Th_canExtend_75 (lv_at hl 0 rfl) ?_
            obtain ⟨r17, σ18, f16, hg⟩ := tq_ob_s hg
            refine tq_aI (va_runV (As := [.int x1, .int x3, .int x4, .int v15]) (rest := []) ⟨hx, hb, hml, hown, hts⟩ (c_Th_passOn l dC dI cI cL cZ ad tt H.size σ x1 x3 x4 v15  r17 σ18 f16) (cwV 4 hts (tq_gV tw_532 tw_534 ts_24 tw_5 tw_535) rfl rfl rfl (by decide +kernel) ⟨by dsimp only [headSpec]; omega, by dsimp only [headSpec]; omega⟩) ⟨tq_bl, va_recv hK hP (ci := 4) (q0 := 4) rfl rfl, (tq_pr hP hK hD hS hA hZ hN)⟩ rfl rfl hl.1 rfl (lv_room (Nat.le_of_ble_eq_true rfl)) d_Th_canExtend_77 ⟨Nat.zero_le _, Nat.zero_le _⟩) hD hS hA (fun H locs hP hD hS => ?_)
            refine lv_if_eq (tgt := 97) hx hb d_Th_canExtend_80 (by decide) (fun c19 => ?_) (fun c19 => ?_)
            · replace hg := tq_if_t c19 hg
              obtain ⟨v20, ev20, hg⟩ := tq_lj_s hg
              refine lv_iinc (v := v20) (lv' := [(6, .int v20), (7, .int v15), (0, .ref (ad 4)), (1, .int x1), (3, .int x3), (4, .int x4), (5, .int x5)]) hx hb d_Th_canExtend_97 hl (k := 6) rfl (by rw [ev20]; rfl) (by decide) rfl (fun ls hl => ?_)
              refine lv_goto (tgt := 48) hx hb d_Th_canExtend_100 (by decide) ?_
              exact ih.2 hP hD hS (lv_sub hl [2, 3, 4, 5, 6, 0] rfl) (tq_gi hg hn)
            · replace hg := tq_if_f c19 hg
              refine lv_aload_n hx hb d_Th_canExtend_83 rfl (lv_at hl 1 rfl) ?_
              refine lv_iload_n hx hb d_Th_canExtend_84 rfl (lv_at hl 2 rfl) ?_
              refine lv_iconst (v := 1) hx hb d_Th_canExtend_85 (by decide) ?_
              refine lv_iadd hx hb d_Th_canExtend_86 ?_
              refine lv_iload hx hb d_Th_canExtend_87 (lv_at hl 4 rfl) ?_
              obtain ⟨r22, σ23, f21, hg⟩ := tq_ob_s hg
              refine tq_aI (va_runV (As := [.int (x1 + 1), .int x4]) (rest := []) ⟨hx, hb, hml, hown, hts⟩ (ihd H.size σ18 (x1 + 1) x4  r22 σ23 f21) (cwV 2 hts (tq_gV tw_508 tw_510 ts_19 tw_5 tw_511) rfl rfl rfl (by decide +kernel) ⟨by dsimp only [headSpec]; omega, by dsimp only [headSpec]; omega⟩) ⟨tq_bl, va_recv hK hP (ci := 4) (q0 := 4) rfl rfl, (tq_pr hP hK hD hS hA hZ hN)⟩ rfl rfl hl.1 rfl (lv_room (Nat.le_of_ble_eq_true rfl)) d_Th_canExtend_89 ⟨Nat.zero_le _, Nat.zero_le _⟩) hD hS hA (fun H locs hP hD hS => ?_)
              refine lv_if_eq (tgt := 97) hx hb d_Th_canExtend_92 (by decide) (fun c24 => ?_) (fun c24 => ?_)
              · replace hg := tq_if_t c24 hg
                obtain ⟨v25, ev25, hg⟩ := tq_lj_s hg
                refine lv_iinc (v := v25) (lv' := [(6, .int v25), (7, .int v15), (0, .ref (ad 4)), (1, .int x1), (3, .int x3), (4, .int x4), (5, .int x5)]) hx hb d_Th_canExtend_97 hl (k := 6) rfl (by rw [ev25]; rfl) (by decide) rfl (fun ls hl => ?_)
                refine lv_goto (tgt := 48) hx hb d_Th_canExtend_100 (by decide) ?_
                exact ih.2 hP hD hS (lv_sub hl [2, 3, 4, 5, 6, 0] rfl) (tq_gi hg hn)
              · replace hg := tq_if_f c24 hg
                refine lv_iconst (v := 1) hx hb d_Th_canExtend_95 (by decide) ?_
                exact W.zret (v := 1) hx hb hr rfl (fun t ht hW => ⟨⟨1, σ23, rfl, tq_grI hg hn, by rw [ht]; exact hP, va_K.moved hW.alike hK, hD⟩, hS.F ht⟩) hS.2.2 d_Th_canExtend_96
    exact (key n0).1 hP hD hS hl h0
noncomputable def bk_Th_firstLeft_0 : List Int32 → List Int64 → tq_S → Option tq_C
  | [x1], [], σ => some (2, [x1, 0], [], σ)
  | _, _, _ => none
noncomputable def bk_Th_firstLeft_2 : List Int32 → List Int64 → tq_S → Option tq_C
  | [x1, x2], [], σ => if (σ.2.2 9) ≤ x2 then some (tq_rt, [0], [], σ) else tq_gd ((x1 * 16) + x2) 400 (tq_lj (la σ 5 ((x1 * 16) + x2)) (fun v3 => if (lg_cmp v3 0) = 0 then tq_lj (x2 + 1) (fun v5 => some (2, [x1, v5], [], σ)) else tq_ob (tq_fI st_Tn_lowestBit (0, [], [v3], σ)) (fun r7 σ8 => some (tq_rt, [((x2 * 64) + r7)], [], σ8))))
  | _, _, _ => none
noncomputable def st_Th_firstLeft (c : tq_C) : Option tq_C := if c.1 = 0 then bk_Th_firstLeft_0 c.2.1 c.2.2.1 c.2.2.2 else if c.1 = 2 then bk_Th_firstLeft_2 c.2.1 c.2.2.1 c.2.2.2 else none
set_option maxHeartbeats 40000000 in
set_option maxRecDepth 100000 in
theorem c_Th_firstLeft (l : Launch) (dC : Nat → ClassId) (dI : Nat → Nat → Nat) (cI cL cZ : ClassId) (ad : Nat → Nat) (tt : Nat) (sz : Nat) (σ : tq_S) (a1 : Int32) (r : Int32) (σ' : tq_S) (hf : tq_fI st_Th_firstLeft (0, [a1], [], σ) = some (r, σ')) : Met l y_Th_firstLeft w_Th_firstLeft ({ frames := 2, cells := 0, slots := 0, locals := 42 } : Room) (va_Pc [.ref (ad 4), .int a1] (tq_B dC dI cI cL cZ tt (wo cI cL cZ ad σ) sz)) (va_Qi (fun (r' : Int32) (u : tq_S) => r' = r ∧ u = σ') (tq_E dC dI cI cL cZ (wo cI cL cZ ad) (va_A (wo cI cL cZ ad σ) sz)) (va_A (wo cI cL cZ ad σ) sz)) 0 0 (va_A (wo cI cL cZ ad σ) sz) := by
  obtain ⟨n0, h0⟩ := tq_fI_to hf
  refine Met.ofW (cc := prog_5_method_25_code) (maxL := 5) (ret := (some .int)) (by decide) rfl ?_
  intro p e s m args below meth c s₁ B hml hv
  obtain ⟨rfl, hsz, hP, hK, hD0, hZ, hN⟩ := hv
  have hx := B.exec
  have hb := B.bytes
  have hr := B.returns
  have hts : ∀ w ∈ tq_T, w.before _ s = true := fun w h => atoms_spec (ws := w_Th_firstLeft) B.pre w (List.mem_cons_of_mem _ h)
  have hown : s.vm.findClass "TableauNodes$Things" = some m.cls := findClass_of_methodNamed B.named
  have hlocks := B.notSynchronized
  subst hsz
  have hD := hD0.self (sz := s.heap.size)
  have hS : va_S (va_A (wo cI cL cZ ad σ) s.heap.size) s.heap s.heap [] := va_S.rf
  have hA : ∀ q : Nat, s.heap.size ≤ q → va_A (wo cI cL cZ ad σ) s.heap.size q := fun q h => Or.inr h
  generalize va_A (wo cI cL cZ ad σ) s.heap.size = A at hD hS hA hZ ⊢
  have hl := lv_entry ([.ref (ad 4), .int a1]) (n := 5) (Nat.le_of_ble_eq_true rfl)
  rw [lg_entry_eq]
  generalize (lg_sl ([.ref (ad 4), .int a1]) ++ List.replicate (5 - (lg_sl ([.ref (ad 4), .int a1])).length) Slot.unset).toArray = ls at hl ⊢
  have hl : lv_has ls 5 [(0, .ref (ad 4)), (1, .int a1)] := hl
  have key : ∀ n : Nat, (∀ {x1 : Int32} {σ : tq_S} {H : Heap} {locs : List Loc} {ls : Array Slot}, va_P (dC, dI) tq_cl (wo cI cL cZ ad σ) H → va_D A (wo cI cL cZ ad σ) → va_S A s.heap H locs → lv_has ls 5 [(0, .ref (ad 4)), (1, .int x1)] → tq_go st_Th_firstLeft n (0, [x1], [], σ) = some (tq_rt, [r], [], σ') → W p l e (headSpec w_Th_firstLeft ({ frames := 2, cells := 0, slots := 0, locals := 42 } : Room)).room s m ([.ref (ad 4), .int a1] : List Value).toArray below meth c H locs 0 0 (MQ below (va_Qi (fun (r' : Int32) (u : tq_S) => r' = r ∧ u = σ') (tq_E dC dI cI cL cZ (wo cI cL cZ ad) A) A) ([.ref (ad 4), .int a1] : List Value).toArray s 0 0 A) (F0 m 0 ls [])) ∧ (∀ {x1 x2 : Int32} {σ : tq_S} {H : Heap} {locs : List Loc} {ls : Array Slot}, va_P (dC, dI) tq_cl (wo cI cL cZ ad σ) H → va_D A (wo cI cL cZ ad σ) → va_S A s.heap H locs → lv_has ls 5 [(0, .ref (ad 4)), (1, .int x1), (2, .int x2)] → tq_go st_Th_firstLeft n (2, [x1, x2], [], σ) = some (tq_rt, [r], [], σ') → W p l e (headSpec w_Th_firstLeft ({ frames := 2, cells := 0, slots := 0, locals := 42 } : Room)).room s m ([.ref (ad 4), .int a1] : List Value).toArray below meth c H locs 0 0 (MQ below (va_Qi (fun (r' : Int32) (u : tq_S) => r' = r ∧ u = σ') (tq_E dC dI cI cL cZ (wo cI cL cZ ad) A) A) ([.ref (ad 4), .int a1] : List Value).toArray s 0 0 A) (F0 m 2 ls [])) := by
    intro n
    induction n with
    | zero => exact ⟨(fun _ _ _ _ h => by cases h), (fun _ _ _ _ h => by cases h)⟩
    | succ n ih =>
      refine ⟨?_, ?_⟩
      · intro x1 σ H locs ls hP hD hS hl h9
        obtain ⟨q9, hg, hn⟩ := tq_go_s h9 (show ¬ (0 : Nat) = tq_rt by decide)
        replace hg : bk_Th_firstLeft_0 [x1] [] σ = some q9 := hg
        unfold bk_Th_firstLeft_0 at hg
        refine lv_iconst (v := 0) hx hb d_Th_firstLeft_0 (by decide) ?_
        refine lv_istore_n (lv' := [(2, .int 0), (0, .ref (ad 4)), (1, .int x1)]) hx hb d_Th_firstLeft_1 rfl hl (by decide) rfl (fun ls hl => ?_)
        exact ih.2 hP hD hS (lv_sub hl [1, 2, 0] rfl) (tq_gi hg hn)
      · intro x1 x2 σ H locs ls hP hD hS hl h9
        obtain ⟨q9, hg, hn⟩ := tq_go_s h9 (show ¬ (2 : Nat) = tq_rt by decide)
        replace hg : bk_Th_firstLeft_2 [x1, x2] [] σ = some q9 := hg
        unfold bk_Th_firstLeft_2 at hg
        refine lv_iload_n hx hb d_Th_firstLeft_2 rfl (lv_at hl 2 rfl) ?_
        refine lv_aload_n hx hb d_Th_firstLeft_3 rfl (lv_at hl 0 rfl) ?_
        refine va_get (D := (dC, dI)) (ci := 4) (v := .int (σ.2.2 9)) (C := "TableauNodes$Things") (T := F_Th) (N := 15) hx hb hts in_Th hown hK hP 4 rfl rfl 10 (by decide) (hts _ tw_184) (fun _ h9 => h9) rfl d_Th_firstLeft_4 ?_
        refine lv_icmp_ge (tgt := 44) hx hb d_Th_firstLeft_7 (by decide) (fun c1 => ?_) (fun c1 => ?_)
        · replace hg := tq_if_t c1 hg
          refine lv_iconst (v := 0) hx hb d_Th_firstLeft_44 (by decide) ?_
          exact W.iret (v := 0) hx hb hr (fun t ht hW => ⟨⟨0, σ, rfl, tq_grI hg hn, by rw [ht]; exact hP, va_K.moved hW.alike hK, hD⟩, hS.F ht⟩) hS.2.2 d_Th_firstLeft_45
        · replace hg := tq_if_f c1 hg
          refine lv_aload_n hx hb d_Th_firstLeft_10 rfl (lv_at hl 0 rfl) ?_
          refine va_get (D := (dC, dI)) (ci := 4) (v := .ref (ad 26)) (C := "TableauNodes$Things") (T := F_Th) (N := 15) hx hb hts in_Th hown hK hP 4 rfl rfl 7 (by decide) (hts _ tw_181) (fun _ h9 => h9) rfl d_Th_firstLeft_11 ?_
          refine lv_iload_n hx hb d_Th_firstLeft_14 rfl (lv_at hl 1 rfl) ?_
          refine lv_bipush (v := 16) hx hb d_Th_firstLeft_15 (by decide) ?_
          refine lv_imul hx hb d_Th_firstLeft_17 ?_
          refine lv_iload_n hx hb d_Th_firstLeft_18 rfl (lv_at hl 2 rfl) ?_
          refine lv_iadd hx hb d_Th_firstLeft_19 ?_
          obtain ⟨g2, hg⟩ := tq_gd_s hg
          refine va_lald hx hb hK hP 26 1 rfl rfl g2 d_Th_firstLeft_20 ?_
          obtain ⟨v3, ev3, hg⟩ := tq_lj_s hg
          refine tq_nml ev3 ?_
          refine lv_lstore_n (lv' := [(3, .long v3), (0, .ref (ad 4)), (1, .int x1), (2, .int x2)]) hx hb d_Th_firstLeft_21 rfl hl (by decide) rfl (fun ls hl => ?_)
          refine lv_lload_n hx hb d_Th_firstLeft_22 rfl (lv_at hl 0 rfl) ?_
          refine lv_lconst (v := 0) hx hb d_Th_firstLeft_23 (by decide) ?_
          refine W.lcmp hx hb d_Th_firstLeft_24 ?_
          refine lv_if_eq (tgt := 38) hx hb d_Th_firstLeft_25 (by decide) (fun c4 => ?_) (fun c4 => ?_)
          · replace hg := tq_if_t c4 hg
            obtain ⟨v5, ev5, hg⟩ := tq_lj_s hg
            refine lv_iinc (v := v5) (lv' := [(2, .int v5), (3, .long v3), (0, .ref (ad 4)), (1, .int x1)]) hx hb d_Th_firstLeft_38 hl (k := 3) rfl (by rw [ev5]; rfl) (by decide) rfl (fun ls hl => ?_)
            refine lv_goto (tgt := 2) hx hb d_Th_firstLeft_41 (by decide) ?_
            exact ih.2 hP hD hS (lv_sub hl [2, 3, 0] rfl) (tq_gi hg hn)
          · replace hg := tq_if_f c4 hg
            refine lv_iload_n hx hb d_Th_firstLeft_28 rfl (lv_at hl 3 rfl) ?_
            refine lv_bipush (v := 64) hx hb d_Th_firstLeft_29 (by decide) ?_
            refine lv_imul hx hb d_Th_firstLeft_31 ?_
            refine lv_lload_n hx hb d_Th_firstLeft_32 rfl (lv_at hl 0 rfl) ?_
            obtain ⟨r7, σ8, f6, hg⟩ := tq_ob_s hg
            refine tq_aI (va_runSN (As := [.long v3]) (rest := [.int (x2 * 64)]) ⟨hx, hb, hml, hown, hts⟩ (c_Tn_lowestBit l dC dI cI cL cZ ad tt H.size σ  v3 r7 σ8 f6) ⟨va_cnB 1 hts (tq_gC tw_400) rfl rfl rfl (hN _ (List.mem_of_getElem? (i := 9) rfl)) (hts _ tw_1) (by decide +kernel) ⟨Nat.le_of_ble_eq_true rfl, Nat.le_of_ble_eq_true rfl⟩, hts _ tw_399, trivial⟩ ⟨tq_bl, (tq_pr hP hK hD hS hA hZ hN)⟩ rfl rfl hl.1 rfl (lv_room (Nat.le_of_ble_eq_true rfl)) d_Th_firstLeft_33 ⟨Nat.zero_le _, Nat.zero_le _⟩) hD hS hA (fun H locs hP hD hS => ?_)
            refine lv_iadd hx hb d_Th_firstLeft_36 ?_
            exact W.iret (v := ((x2 * 64) + r7)) hx hb hr (fun t ht hW => ⟨⟨((x2 * 64) + r7), σ8, rfl, tq_grI hg hn, by rw [ht]; exact hP, va_K.moved hW.alike hK, hD⟩, hS.F ht⟩) hS.2.2 d_Th_firstLeft_37
  exact (key n0).1 hP hD hS hl h0
noncomputable def bk_Th_keepSpare_0 : List Int32 → List Int64 → tq_S → Option tq_C
  | [x1], [], σ => tq_gp (tq_cp (x1 * 16) 0 16 400 16) (tq_lj (lcpy σ 5 6 ((x1 * 16) : Int32).toNatClampNeg (0 : Int32).toNatClampNeg (16 : Int32).toNatClampNeg) (fun σ2 => some (tq_rt, [], [], σ2)))
  | _, _, _ => none
noncomputable def st_Th_keepSpare (c : tq_C) : Option tq_C := if c.1 = 0 then bk_Th_keepSpare_0 c.2.1 c.2.2.1 c.2.2.2 else none
set_option maxHeartbeats 40000000 in
set_option maxRecDepth 100000 in
theorem c_Th_keepSpare (l : Launch) (dC : Nat → ClassId) (dI : Nat → Nat → Nat) (cI cL cZ : ClassId) (ad : Nat → Nat) (tt : Nat) (sz : Nat) (σ : tq_S) (a1 : Int32) (σ' : tq_S) (hf : tq_fV st_Th_keepSpare (0, [a1], [], σ) = some ((), σ')) : Met l y_Th_keepSpare w_Th_keepSpare ({ frames := 1, cells := 0, slots := 0, locals := 200 } : Room) (va_Pc [.ref (ad 4), .int a1] (tq_B dC dI cI cL cZ tt (wo cI cL cZ ad σ) sz)) (va_Qv (fun (u : tq_S) => u = σ') (tq_E dC dI cI cL cZ (wo cI cL cZ ad) (va_A (wo cI cL cZ ad σ) sz)) (va_A (wo cI cL cZ ad σ) sz)) 0 0 (va_A (wo cI cL cZ ad σ) sz) := by
  obtain ⟨n0, h0⟩ := tq_fV_to hf
  refine Met.ofW (cc := prog_5_method_23_code) (maxL := 2) (ret := none) (by decide) rfl ?_
  intro p e s m args below meth c s₁ B hml hv
  obtain ⟨rfl, hsz, hP, hK, hD0, hZ, hN⟩ := hv
  have hx := B.exec
  have hb := B.bytes
  have hr := B.returns
  have hts : ∀ w ∈ tq_T, w.before _ s = true := fun w h => atoms_spec (ws := w_Th_keepSpare) B.pre w (List.mem_cons_of_mem _ h)
  have hown : s.vm.findClass "TableauNodes$Things" = some m.cls := findClass_of_methodNamed B.named
  have hlocks := B.notSynchronized
  subst hsz
  have hD := hD0.self (sz := s.heap.size)
  have hS : va_S (va_A (wo cI cL cZ ad σ) s.heap.size) s.heap s.heap [] := va_S.rf
  have hA : ∀ q : Nat, s.heap.size ≤ q → va_A (wo cI cL cZ ad σ) s.heap.size q := fun q h => Or.inr h
  generalize va_A (wo cI cL cZ ad σ) s.heap.size = A at hD hS hA hZ ⊢
  have hl := lv_entry ([.ref (ad 4), .int a1]) (n := 2) (Nat.le_of_ble_eq_true rfl)
  rw [lg_entry_eq]
  generalize (lg_sl ([.ref (ad 4), .int a1]) ++ List.replicate (2 - (lg_sl ([.ref (ad 4), .int a1])).length) Slot.unset).toArray = ls at hl ⊢
  have hl : lv_has ls 2 [(0, .ref (ad 4)), (1, .int a1)] := hl
  have key : ∀ n : Nat, (∀ {x1 : Int32} {σ : tq_S} {H : Heap} {locs : List Loc} {ls : Array Slot}, va_P (dC, dI) tq_cl (wo cI cL cZ ad σ) H → va_D A (wo cI cL cZ ad σ) → va_S A s.heap H locs → lv_has ls 2 [(0, .ref (ad 4)), (1, .int x1)] → tq_go st_Th_keepSpare n (0, [x1], [], σ) = some (tq_rt, [], [], σ') → W p l e (headSpec w_Th_keepSpare ({ frames := 1, cells := 0, slots := 0, locals := 200 } : Room)).room s m ([.ref (ad 4), .int a1] : List Value).toArray below meth c H locs 0 0 (MQ below (va_Qv (fun (u : tq_S) => u = σ') (tq_E dC dI cI cL cZ (wo cI cL cZ ad) A) A) ([.ref (ad 4), .int a1] : List Value).toArray s 0 0 A) (F0 m 0 ls [])) := by
    intro n
    induction n with
    | zero => exact fun _ _ _ _ h => by cases h
    | succ n ih =>
      intro x1 σ H locs ls hP hD hS hl h9
      obtain ⟨q9, hg, hn⟩ := tq_go_s h9 (show ¬ (0 : Nat) = tq_rt by decide)
      replace hg : bk_Th_keepSpare_0 [x1] [] σ = some q9 := hg
      unfold bk_Th_keepSpare_0 at hg
      refine lv_aload_n hx hb d_Th_keepSpare_0 rfl (lv_at hl 0 rfl) ?_
      refine va_get (D := (dC, dI)) (ci := 4) (v := .ref (ad 26)) (C := "TableauNodes$Things") (T := F_Th) (N := 15) hx hb hts in_Th hown hK hP 4 rfl rfl 7 (by decide) (hts _ tw_181) (fun _ h9 => h9) rfl d_Th_keepSpare_1 ?_
      refine lv_iload_n hx hb d_Th_keepSpare_4 rfl (lv_at hl 1 rfl) ?_
      refine lv_bipush (v := 16) hx hb d_Th_keepSpare_5 (by decide) ?_
      refine lv_imul hx hb d_Th_keepSpare_7 ?_
      refine lv_aload_n hx hb d_Th_keepSpare_8 rfl (lv_at hl 0 rfl) ?_
      refine va_get (D := (dC, dI)) (ci := 4) (v := .ref (ad 28)) (C := "TableauNodes$Things") (T := F_Th) (N := 15) hx hb hts in_Th hown hK hP 4 rfl rfl 9 (by decide) (hts _ tw_183) (fun _ h9 => h9) rfl d_Th_keepSpare_9 ?_
      refine lv_iconst (v := 0) hx hb d_Th_keepSpare_12 (by decide) ?_
      refine lv_bipush (v := 16) hx hb d_Th_keepSpare_13 (by decide) ?_
      obtain ⟨h1, hg⟩ := tq_gp_s hg
      refine va_copyl hx hb (hml.trans hl.1.symm) hown (hts _ tw_552) (hts _ tw_554) (hts _ tw_553) (hts _ tw_10) hK hP hD hS 26 28 1 1 rfl rfl rfl rfl rfl h1.1 h1.2.1 h1.2.2.1 h1.2.2.2.1 h1.2.2.2.2 (fun _ _ => rfl) (Nat.le_of_ble_eq_true rfl) (by decide) d_Th_keepSpare_15 (fun H locs hP hD hS => ?_)
      obtain ⟨σ2, eσ2, hg⟩ := tq_lj_s hg
      replace hP : va_P (dC, dI) tq_cl (wo cI cL cZ ad σ2) H := by rw [eσ2]; exact hP
      replace hD : va_D A (wo cI cL cZ ad σ2) := by rw [eσ2]; exact hD
      exact W.vret hx hb hr (fun t ht hW => ⟨⟨σ2, rfl, tq_grV hg hn, by rw [ht]; exact hP, va_K.moved hW.alike hK, hD⟩, hS.F ht⟩) hS.2.2 d_Th_keepSpare_18
  exact (key n0) hP hD hS hl h0
noncomputable def bk_Th_takeSpare_0 : List Int32 → List Int64 → tq_S → Option tq_C
  | [x1], [], σ => tq_gp (tq_cp 0 (x1 * 16) 16 16 400) (tq_lj (lcpy σ 6 5 (0 : Int32).toNatClampNeg ((x1 * 16) : Int32).toNatClampNeg (16 : Int32).toNatClampNeg) (fun σ2 => some (tq_rt, [], [], σ2)))
  | _, _, _ => none
noncomputable def st_Th_takeSpare (c : tq_C) : Option tq_C := if c.1 = 0 then bk_Th_takeSpare_0 c.2.1 c.2.2.1 c.2.2.2 else none
set_option maxHeartbeats 40000000 in
set_option maxRecDepth 100000 in
theorem c_Th_takeSpare (l : Launch) (dC : Nat → ClassId) (dI : Nat → Nat → Nat) (cI cL cZ : ClassId) (ad : Nat → Nat) (tt : Nat) (sz : Nat) (σ : tq_S) (a1 : Int32) (σ' : tq_S) (hf : tq_fV st_Th_takeSpare (0, [a1], [], σ) = some ((), σ')) : Met l y_Th_takeSpare w_Th_takeSpare ({ frames := 1, cells := 0, slots := 0, locals := 200 } : Room) (va_Pc [.ref (ad 4), .int a1] (tq_B dC dI cI cL cZ tt (wo cI cL cZ ad σ) sz)) (va_Qv (fun (u : tq_S) => u = σ') (tq_E dC dI cI cL cZ (wo cI cL cZ ad) (va_A (wo cI cL cZ ad σ) sz)) (va_A (wo cI cL cZ ad σ) sz)) 0 0 (va_A (wo cI cL cZ ad σ) sz) := by
  obtain ⟨n0, h0⟩ := tq_fV_to hf
  refine Met.ofW (cc := prog_5_method_24_code) (maxL := 2) (ret := none) (by decide) rfl ?_
  intro p e s m args below meth c s₁ B hml hv
  obtain ⟨rfl, hsz, hP, hK, hD0, hZ, hN⟩ := hv
  have hx := B.exec
  have hb := B.bytes
  have hr := B.returns
  have hts : ∀ w ∈ tq_T, w.before _ s = true := fun w h => atoms_spec (ws := w_Th_takeSpare) B.pre w (List.mem_cons_of_mem _ h)
  have hown : s.vm.findClass "TableauNodes$Things" = some m.cls := findClass_of_methodNamed B.named
  have hlocks := B.notSynchronized
  subst hsz
  have hD := hD0.self (sz := s.heap.size)
  have hS : va_S (va_A (wo cI cL cZ ad σ) s.heap.size) s.heap s.heap [] := va_S.rf
  have hA : ∀ q : Nat, s.heap.size ≤ q → va_A (wo cI cL cZ ad σ) s.heap.size q := fun q h => Or.inr h
  generalize va_A (wo cI cL cZ ad σ) s.heap.size = A at hD hS hA hZ ⊢
  have hl := lv_entry ([.ref (ad 4), .int a1]) (n := 2) (Nat.le_of_ble_eq_true rfl)
  rw [lg_entry_eq]
  generalize (lg_sl ([.ref (ad 4), .int a1]) ++ List.replicate (2 - (lg_sl ([.ref (ad 4), .int a1])).length) Slot.unset).toArray = ls at hl ⊢
  have hl : lv_has ls 2 [(0, .ref (ad 4)), (1, .int a1)] := hl
  have key : ∀ n : Nat, (∀ {x1 : Int32} {σ : tq_S} {H : Heap} {locs : List Loc} {ls : Array Slot}, va_P (dC, dI) tq_cl (wo cI cL cZ ad σ) H → va_D A (wo cI cL cZ ad σ) → va_S A s.heap H locs → lv_has ls 2 [(0, .ref (ad 4)), (1, .int x1)] → tq_go st_Th_takeSpare n (0, [x1], [], σ) = some (tq_rt, [], [], σ') → W p l e (headSpec w_Th_takeSpare ({ frames := 1, cells := 0, slots := 0, locals := 200 } : Room)).room s m ([.ref (ad 4), .int a1] : List Value).toArray below meth c H locs 0 0 (MQ below (va_Qv (fun (u : tq_S) => u = σ') (tq_E dC dI cI cL cZ (wo cI cL cZ ad) A) A) ([.ref (ad 4), .int a1] : List Value).toArray s 0 0 A) (F0 m 0 ls [])) := by
    intro n
    induction n with
    | zero => exact fun _ _ _ _ h => by cases h
    | succ n ih =>
      intro x1 σ H locs ls hP hD hS hl h9
      obtain ⟨q9, hg, hn⟩ := tq_go_s h9 (show ¬ (0 : Nat) = tq_rt by decide)
      replace hg : bk_Th_takeSpare_0 [x1] [] σ = some q9 := hg
      unfold bk_Th_takeSpare_0 at hg
      refine lv_aload_n hx hb d_Th_takeSpare_0 rfl (lv_at hl 0 rfl) ?_
      refine va_get (D := (dC, dI)) (ci := 4) (v := .ref (ad 28)) (C := "TableauNodes$Things") (T := F_Th) (N := 15) hx hb hts in_Th hown hK hP 4 rfl rfl 9 (by decide) (hts _ tw_183) (fun _ h9 => h9) rfl d_Th_takeSpare_1 ?_
      refine lv_iconst (v := 0) hx hb d_Th_takeSpare_4 (by decide) ?_
      refine lv_aload_n hx hb d_Th_takeSpare_5 rfl (lv_at hl 0 rfl) ?_
      refine va_get (D := (dC, dI)) (ci := 4) (v := .ref (ad 26)) (C := "TableauNodes$Things") (T := F_Th) (N := 15) hx hb hts in_Th hown hK hP 4 rfl rfl 7 (by decide) (hts _ tw_181) (fun _ h9 => h9) rfl d_Th_takeSpare_6 ?_
      refine lv_iload_n hx hb d_Th_takeSpare_9 rfl (lv_at hl 1 rfl) ?_
      refine lv_bipush (v := 16) hx hb d_Th_takeSpare_10 (by decide) ?_
      refine lv_imul hx hb d_Th_takeSpare_12 ?_
      refine lv_bipush (v := 16) hx hb d_Th_takeSpare_13 (by decide) ?_
      obtain ⟨h1, hg⟩ := tq_gp_s hg
      refine va_copyl hx hb (hml.trans hl.1.symm) hown (hts _ tw_552) (hts _ tw_554) (hts _ tw_553) (hts _ tw_10) hK hP hD hS 28 26 1 1 rfl rfl rfl rfl rfl h1.1 h1.2.1 h1.2.2.1 h1.2.2.2.1 h1.2.2.2.2 (fun _ _ => rfl) (Nat.le_of_ble_eq_true rfl) (by decide) d_Th_takeSpare_15 (fun H locs hP hD hS => ?_)
      obtain ⟨σ2, eσ2, hg⟩ := tq_lj_s hg
      replace hP : va_P (dC, dI) tq_cl (wo cI cL cZ ad σ2) H := by rw [eσ2]; exact hP
      replace hD : va_D A (wo cI cL cZ ad σ2) := by rw [eσ2]; exact hD
      exact W.vret hx hb hr (fun t ht hW => ⟨⟨σ2, rfl, tq_grV hg hn, by rw [ht]; exact hP, va_K.moved hW.alike hK, hD⟩, hS.F ht⟩) hS.2.2 d_Th_takeSpare_18
  exact (key n0) hP hD hS hl h0
noncomputable def bk_Th_leaveFirst_0 : List Int32 → List Int64 → tq_S → Option tq_C
  | [x1], [], σ => tq_ob (tq_fI st_Th_firstLeft (0, [x1], [], σ)) (fun r2 σ3 => tq_ob (tq_fV st_Th_keepSpare (0, [x1], [], σ3)) (fun _ σ6 => some (13, [x1, r2, 0], [], σ6)))
  | _, _, _ => none
noncomputable def bk_Th_leaveFirst_13 : List Int32 → List Int64 → tq_S → Option tq_C
  | [x1, x2, x3], [], σ => if (σ.2.2 9) ≤ x3 then tq_lj ((x1 * 16) + (x2 / 64)) (fun v9 => tq_lj (jlshl 1 (jrem x2 64)) (fun v11 => tq_gd v9 400 (tq_lj (lput σ 5 v9.toNatClampNeg v11) (fun σ13 => tq_ob (fx_canExtend 6 (0, [0, 31], [], σ13)) (fun r15 σ16 => if r15 = 0 then tq_ob (tq_fV st_Th_takeSpare (0, [x1], [], σ16)) (fun _ σ20 => tq_gd v9 400 (tq_gd v9 400 (tq_lj (lput σ20 5 v9.toNatClampNeg ((la σ20 5 v9) &&& (v11 ^^^ (-1)))) (fun σ23 => some (tq_rt, [0], [], σ23))))) else some (tq_rt, [1], [], σ16)))))) else tq_gd ((x1 * 16) + x3) 400 (tq_lj (lput σ 5 ((x1 * 16) + x3).toNatClampNeg 0) (fun σ25 => tq_lj (x3 + 1) (fun v26 => some (13, [x1, x2, v26], [], σ25))))
  | _, _, _ => none
noncomputable def st_Th_leaveFirst (c : tq_C) : Option tq_C := if c.1 = 0 then bk_Th_leaveFirst_0 c.2.1 c.2.2.1 c.2.2.2 else if c.1 = 13 then bk_Th_leaveFirst_13 c.2.1 c.2.2.1 c.2.2.2 else none
set_option maxHeartbeats 40000000 in
set_option maxRecDepth 100000 in
theorem c_Th_leaveFirst (l : Launch) (dC : Nat → ClassId) (dI : Nat → Nat → Nat) (cI cL cZ : ClassId) (ad : Nat → Nat) (tt : Nat) (sz : Nat) (σ : tq_S) (a1 : Int32) (r : Int32) (σ' : tq_S) (hf : tq_fI st_Th_leaveFirst (0, [a1], [], σ) = some (r, σ')) : Met l y_Th_leaveFirst w_Th_leaveFirst ({ frames := 10, cells := 0, slots := 0, locals := 275 } : Room) (va_Pc [.ref (ad 4), .int a1] (tq_B dC dI cI cL cZ tt (wo cI cL cZ ad σ) sz)) (va_Qi (fun (r' : Int32) (u : tq_S) => r' = r ∧ u = σ') (tq_E dC dI cI cL cZ (wo cI cL cZ ad) (va_A (wo cI cL cZ ad σ) sz)) (va_A (wo cI cL cZ ad σ) sz)) 0 0 (va_A (wo cI cL cZ ad σ) sz) := by
  obtain ⟨n0, h0⟩ := tq_fI_to hf
  refine Met.ofW (cc := prog_5_method_20_code) (maxL := 6) (ret := (some .boolean)) (by decide) rfl ?_
  intro p e s m args below meth c s₁ B hml hv
  obtain ⟨rfl, hsz, hP, hK, hD0, hZ, hN⟩ := hv
  have hx := B.exec
  have hb := B.bytes
  have hr := B.returns
  have hts : ∀ w ∈ tq_T, w.before _ s = true := fun w h => atoms_spec (ws := w_Th_leaveFirst) B.pre w (List.mem_cons_of_mem _ h)
  have hown : s.vm.findClass "TableauNodes$Things" = some m.cls := findClass_of_methodNamed B.named
  have hlocks := B.notSynchronized
  subst hsz
  have hD := hD0.self (sz := s.heap.size)
  have hS : va_S (va_A (wo cI cL cZ ad σ) s.heap.size) s.heap s.heap [] := va_S.rf
  have hA : ∀ q : Nat, s.heap.size ≤ q → va_A (wo cI cL cZ ad σ) s.heap.size q := fun q h => Or.inr h
  generalize va_A (wo cI cL cZ ad σ) s.heap.size = A at hD hS hA hZ ⊢
  have hl := lv_entry ([.ref (ad 4), .int a1]) (n := 6) (Nat.le_of_ble_eq_true rfl)
  rw [lg_entry_eq]
  generalize (lg_sl ([.ref (ad 4), .int a1]) ++ List.replicate (6 - (lg_sl ([.ref (ad 4), .int a1])).length) Slot.unset).toArray = ls at hl ⊢
  have hl : lv_has ls 6 [(0, .ref (ad 4)), (1, .int a1)] := hl
  have key : ∀ n : Nat, (∀ {x1 : Int32} {σ : tq_S} {H : Heap} {locs : List Loc} {ls : Array Slot}, va_P (dC, dI) tq_cl (wo cI cL cZ ad σ) H → va_D A (wo cI cL cZ ad σ) → va_S A s.heap H locs → lv_has ls 6 [(0, .ref (ad 4)), (1, .int x1)] → tq_go st_Th_leaveFirst n (0, [x1], [], σ) = some (tq_rt, [r], [], σ') → W p l e (headSpec w_Th_leaveFirst ({ frames := 10, cells := 0, slots := 0, locals := 275 } : Room)).room s m ([.ref (ad 4), .int a1] : List Value).toArray below meth c H locs 0 0 (MQ below (va_Qi (fun (r' : Int32) (u : tq_S) => r' = r ∧ u = σ') (tq_E dC dI cI cL cZ (wo cI cL cZ ad) A) A) ([.ref (ad 4), .int a1] : List Value).toArray s 0 0 A) (F0 m 0 ls [])) ∧ (∀ {x1 x2 x3 : Int32} {σ : tq_S} {H : Heap} {locs : List Loc} {ls : Array Slot}, va_P (dC, dI) tq_cl (wo cI cL cZ ad σ) H → va_D A (wo cI cL cZ ad σ) → va_S A s.heap H locs → lv_has ls 6 [(0, .ref (ad 4)), (1, .int x1), (2, .int x2), (3, .int x3)] → tq_go st_Th_leaveFirst n (13, [x1, x2, x3], [], σ) = some (tq_rt, [r], [], σ') → W p l e (headSpec w_Th_leaveFirst ({ frames := 10, cells := 0, slots := 0, locals := 275 } : Room)).room s m ([.ref (ad 4), .int a1] : List Value).toArray below meth c H locs 0 0 (MQ below (va_Qi (fun (r' : Int32) (u : tq_S) => r' = r ∧ u = σ') (tq_E dC dI cI cL cZ (wo cI cL cZ ad) A) A) ([.ref (ad 4), .int a1] : List Value).toArray s 0 0 A) (F0 m 13 ls [])) := by
    intro n
    induction n with
    | zero => exact ⟨(fun _ _ _ _ h => by cases h), (fun _ _ _ _ h => by cases h)⟩
    | succ n ih =>
      refine ⟨?_, ?_⟩
      · intro x1 σ H locs ls hP hD hS hl h9
        obtain ⟨q9, hg, hn⟩ := tq_go_s h9 (show ¬ (0 : Nat) = tq_rt by decide)
        replace hg : bk_Th_leaveFirst_0 [x1] [] σ = some q9 := hg
        unfold bk_Th_leaveFirst_0 at hg
        refine lv_aload_n hx hb d_Th_leaveFirst_0 rfl (lv_at hl 0 rfl) ?_
        refine lv_iload_n hx hb d_Th_leaveFirst_1 rfl (lv_at hl 1 rfl) ?_
        obtain ⟨r2, σ3, f1, hg⟩ := tq_ob_s hg
        refine tq_aI (va_runV (As := [.int x1]) (rest := []) ⟨hx, hb, hml, hown, hts⟩ (c_Th_firstLeft l dC dI cI cL cZ ad tt H.size σ x1  r2 σ3 f1) (cwV 1 hts (tq_gV tw_544 tw_546 ts_27 tw_5 tw_547) rfl rfl rfl (by decide +kernel) ⟨Nat.le_of_ble_eq_true rfl, Nat.le_of_ble_eq_true rfl⟩) ⟨tq_bl, va_recv hK hP (ci := 4) (q0 := 4) rfl rfl, (tq_pr hP hK hD hS hA hZ hN)⟩ rfl rfl hl.1 rfl (lv_room (Nat.le_of_ble_eq_true rfl)) d_Th_leaveFirst_2 ⟨Nat.zero_le _, Nat.zero_le _⟩) hD hS hA (fun H locs hP hD hS => ?_)
        refine lv_istore_n (lv' := [(2, .int r2), (0, .ref (ad 4)), (1, .int x1)]) hx hb d_Th_leaveFirst_5 rfl hl (by decide) rfl (fun ls hl => ?_)
        refine lv_aload_n hx hb d_Th_leaveFirst_6 rfl (lv_at hl 1 rfl) ?_
        refine lv_iload_n hx hb d_Th_leaveFirst_7 rfl (lv_at hl 2 rfl) ?_
        obtain ⟨⟨⟩, σ6, f4, hg⟩ := tq_ob_s hg
        refine tq_aV (va_runV (As := [.int x1]) (rest := []) ⟨hx, hb, hml, hown, hts⟩ (c_Th_keepSpare l dC dI cI cL cZ ad tt H.size σ3 x1   σ6 f4) (cwV 1 hts (tq_gV tw_548 tw_550 ts_28 tw_5 tw_551) rfl rfl rfl (by decide +kernel) ⟨Nat.le_of_ble_eq_true rfl, Nat.le_of_ble_eq_true rfl⟩) ⟨tq_bl, va_recv hK hP (ci := 4) (q0 := 4) rfl rfl, (tq_pr hP hK hD hS hA hZ hN)⟩ rfl rfl hl.1 rfl (lv_room (Nat.le_of_ble_eq_true rfl)) d_Th_leaveFirst_8 ⟨Nat.zero_le _, Nat.zero_le _⟩) hD hS hA (fun H locs hP hD hS => ?_)
        refine lv_iconst (v := 0) hx hb d_Th_leaveFirst_11 (by decide) ?_
        refine lv_istore_n (lv' := [(3, .int 0), (2, .int r2), (0, .ref (ad 4)), (1, .int x1)]) hx hb d_Th_leaveFirst_12 rfl hl (by decide) rfl (fun ls hl => ?_)
        exact ih.2 hP hD hS (lv_sub hl [2, 3, 1, 0] rfl) (tq_gi hg hn)
      · intro x1 x2 x3 σ H locs ls hP hD hS hl h9
        obtain ⟨q9, hg, hn⟩ := tq_go_s h9 (show ¬ (13 : Nat) = tq_rt by decide)
        replace hg : bk_Th_leaveFirst_13 [x1, x2, x3] [] σ = some q9 := hg
        unfold bk_Th_leaveFirst_13 at hg
        refine lv_iload_n hx hb d_Th_leaveFirst_13 rfl (lv_at hl 3 rfl) ?_
        refine lv_aload_n hx hb d_Th_leaveFirst_14 rfl (lv_at hl 0 rfl) ?_
        refine va_get (D := (dC, dI)) (ci := 4) (v := .int (σ.2.2 9)) (C := "TableauNodes$Things") (T := F_Th) (N := 15) hx hb hts in_Th hown hK hP 4 rfl rfl 10 (by decide) (hts _ tw_184) (fun _ h9 => h9) rfl d_Th_leaveFirst_15 ?_
        refine lv_icmp_ge (tgt := 39) hx hb d_Th_leaveFirst_18 (by decide) (fun c7 => ?_) (fun c7 => ?_)
        · replace hg := tq_if_t c7 hg
          refine lv_iload_n hx hb d_Th_leaveFirst_39 rfl (lv_at hl 1 rfl) ?_
          refine lv_bipush (v := 16) hx hb d_Th_leaveFirst_40 (by decide) ?_
          refine lv_imul hx hb d_Th_leaveFirst_42 ?_
          refine lv_iload_n hx hb d_Th_leaveFirst_43 rfl (lv_at hl 2 rfl) ?_
          refine lv_bipush (v := 64) hx hb d_Th_leaveFirst_44 (by decide) ?_
          refine lv_idiv hx hb d_Th_leaveFirst_46 (by decide) ?_
          refine lv_iadd hx hb d_Th_leaveFirst_47 ?_
          obtain ⟨v9, ev9, hg⟩ := tq_lj_s hg
          refine tq_nmi ev9 ?_
          refine lv_istore_n (lv' := [(3, .int v9), (0, .ref (ad 4)), (1, .int x1), (2, .int x2)]) hx hb d_Th_leaveFirst_48 rfl hl (by decide) rfl (fun ls hl => ?_)
          refine lv_lconst (v := 1) hx hb d_Th_leaveFirst_49 (by decide) ?_
          refine lv_iload_n hx hb d_Th_leaveFirst_50 rfl (lv_at hl 3 rfl) ?_
          refine lv_bipush (v := 64) hx hb d_Th_leaveFirst_51 (by decide) ?_
          refine lv_irem hx hb d_Th_leaveFirst_53 (by decide) ?_
          refine lv_lshl hx hb d_Th_leaveFirst_54 rfl ?_
          obtain ⟨v11, ev11, hg⟩ := tq_lj_s hg
          refine tq_nml ev11 ?_
          refine lv_lstore (lv' := [(4, .long v11), (3, .int v9), (0, .ref (ad 4)), (1, .int x1), (2, .int x2)]) hx hb d_Th_leaveFirst_55 hl (by decide) rfl (fun ls hl => ?_)
          refine lv_aload_n hx hb d_Th_leaveFirst_57 rfl (lv_at hl 2 rfl) ?_
          refine va_get (D := (dC, dI)) (ci := 4) (v := .ref (ad 26)) (C := "TableauNodes$Things") (T := F_Th) (N := 15) hx hb hts in_Th hown hK hP 4 rfl rfl 7 (by decide) (hts _ tw_181) (fun _ h9 => h9) rfl d_Th_leaveFirst_58 ?_
          refine lv_iload_n hx hb d_Th_leaveFirst_61 rfl (lv_at hl 1 rfl) ?_
          refine lv_lload hx hb d_Th_leaveFirst_62 (lv_at hl 0 rfl) ?_
          obtain ⟨g12, hg⟩ := tq_gd_s hg
          refine va_last hx hb hK hP hD hS 26 1 rfl rfl g12 d_Th_leaveFirst_64 (fun H locs hP hD hS => ?_)
          obtain ⟨σ13, eσ13, hg⟩ := tq_lj_s hg
          replace hP : va_P (dC, dI) tq_cl (wo cI cL cZ ad σ13) H := by rw [eσ13, ← ws_l5]; exact hP
          replace hD : va_D A (wo cI cL cZ ad σ13) := by rw [eσ13, ← ws_l5]; exact hD
          refine lv_aload_n hx hb d_Th_leaveFirst_65 rfl (lv_at hl 2 rfl) ?_
          refine lv_iconst (v := 0) hx hb d_Th_leaveFirst_66 (by decide) ?_
          refine lv_bipush (v := 31) hx hb d_Th_leaveFirst_67 (by decide) ?_
          obtain ⟨r15, σ16, f14, hg⟩ := tq_ob_s hg
          refine tq_aI (va_runV (As := [.int 0, .int 31]) (rest := []) ⟨hx, hb, hml, hown, hts⟩ (c_Th_canExtend l dC dI cI cL cZ ad tt 6 H.size σ13 0 31  r15 σ16 f14) (cwV 2 hts (tq_gV tw_508 tw_510 ts_19 tw_5 tw_511) rfl rfl rfl (by decide +kernel) ⟨Nat.le_of_ble_eq_true rfl, Nat.le_of_ble_eq_true rfl⟩) ⟨tq_bl, va_recv hK hP (ci := 4) (q0 := 4) rfl rfl, (tq_pr hP hK hD hS hA hZ hN)⟩ rfl rfl hl.1 rfl (lv_room (Nat.le_of_ble_eq_true rfl)) d_Th_leaveFirst_69 ⟨Nat.zero_le _, Nat.zero_le _⟩) hD hS hA (fun H locs hP hD hS => ?_)
          refine lv_if_eq (tgt := 77) hx hb d_Th_leaveFirst_72 (by decide) (fun c17 => ?_) (fun c17 => ?_)
          · replace hg := tq_if_t c17 hg
            refine lv_aload_n hx hb d_Th_leaveFirst_77 rfl (lv_at hl 2 rfl) ?_
            refine lv_iload_n hx hb d_Th_leaveFirst_78 rfl (lv_at hl 3 rfl) ?_
            obtain ⟨⟨⟩, σ20, f18, hg⟩ := tq_ob_s hg
            refine tq_aV (va_runV (As := [.int x1]) (rest := []) ⟨hx, hb, hml, hown, hts⟩ (c_Th_takeSpare l dC dI cI cL cZ ad tt H.size σ16 x1   σ20 f18) (cwV 1 hts (tq_gV tw_555 tw_557 ts_29 tw_5 tw_558) rfl rfl rfl (by decide +kernel) ⟨Nat.le_of_ble_eq_true rfl, Nat.le_of_ble_eq_true rfl⟩) ⟨tq_bl, va_recv hK hP (ci := 4) (q0 := 4) rfl rfl, (tq_pr hP hK hD hS hA hZ hN)⟩ rfl rfl hl.1 rfl (lv_room (Nat.le_of_ble_eq_true rfl)) d_Th_leaveFirst_79 ⟨Nat.zero_le _, Nat.zero_le _⟩) hD hS hA (fun H locs hP hD hS => ?_)
            refine lv_aload_n hx hb d_Th_leaveFirst_82 rfl (lv_at hl 2 rfl) ?_
            refine va_get (D := (dC, dI)) (ci := 4) (v := .ref (ad 26)) (C := "TableauNodes$Things") (T := F_Th) (N := 15) hx hb hts in_Th hown hK hP 4 rfl rfl 7 (by decide) (hts _ tw_181) (fun _ h9 => h9) rfl d_Th_leaveFirst_83 ?_
            refine lv_iload_n hx hb d_Th_leaveFirst_86 rfl (lv_at hl 1 rfl) ?_
            refine lv_dup2_11 hx hb d_Th_leaveFirst_87 rfl rfl ?_
            obtain ⟨g21, hg⟩ := tq_gd_s hg
            refine va_lald hx hb hK hP 26 1 rfl rfl g21 d_Th_leaveFirst_88 ?_
            refine lv_lload hx hb d_Th_leaveFirst_89 (lv_at hl 0 rfl) ?_
            refine lv_ldc2 (v := (-1)) hx hb hown (hts _ tw_173) d_Th_leaveFirst_91 ?_
            refine lv_lxor hx hb d_Th_leaveFirst_94 ?_
            refine lv_land hx hb d_Th_leaveFirst_95 ?_
            obtain ⟨g22, hg⟩ := tq_gd_s hg
            refine va_last hx hb hK hP hD hS 26 1 rfl rfl g22 d_Th_leaveFirst_96 (fun H locs hP hD hS => ?_)
            obtain ⟨σ23, eσ23, hg⟩ := tq_lj_s hg
            replace hP : va_P (dC, dI) tq_cl (wo cI cL cZ ad σ23) H := by rw [eσ23, ← ws_l5]; exact hP
            replace hD : va_D A (wo cI cL cZ ad σ23) := by rw [eσ23, ← ws_l5]; exact hD
            refine lv_iconst (v := 0) hx hb d_Th_leaveFirst_97 (by decide) ?_
            exact W.zret (v := 0) hx hb hr rfl (fun t ht hW => ⟨⟨0, σ23, rfl, tq_grI hg hn, by rw [ht]; exact hP, va_K.moved hW.alike hK, hD⟩, hS.F ht⟩) hS.2.2 d_Th_leaveFirst_98
          · replace hg := tq_if_f c17 hg
            refine lv_iconst (v := 1) hx hb d_Th_leaveFirst_75 (by decide) ?_
            exact W.zret (v := 1) hx hb hr rfl (fun t ht hW => ⟨⟨1, σ16, rfl, tq_grI hg hn, by rw [ht]; exact hP, va_K.moved hW.alike hK, hD⟩, hS.F ht⟩) hS.2.2 d_Th_leaveFirst_76
        · replace hg := tq_if_f c7 hg
          refine lv_aload_n hx hb d_Th_leaveFirst_21 rfl (lv_at hl 0 rfl) ?_
          refine va_get (D := (dC, dI)) (ci := 4) (v := .ref (ad 26)) (C := "TableauNodes$Things") (T := F_Th) (N := 15) hx hb hts in_Th hown hK hP 4 rfl rfl 7 (by decide) (hts _ tw_181) (fun _ h9 => h9) rfl d_Th_leaveFirst_22 ?_
          refine lv_iload_n hx hb d_Th_leaveFirst_25 rfl (lv_at hl 1 rfl) ?_
          refine lv_bipush (v := 16) hx hb d_Th_leaveFirst_26 (by decide) ?_
          refine lv_imul hx hb d_Th_leaveFirst_28 ?_
          refine lv_iload_n hx hb d_Th_leaveFirst_29 rfl (lv_at hl 3 rfl) ?_
          refine lv_iadd hx hb d_Th_leaveFirst_30 ?_
          refine lv_lconst (v := 0) hx hb d_Th_leaveFirst_31 (by decide) ?_
          obtain ⟨g24, hg⟩ := tq_gd_s hg
          refine va_last hx hb hK hP hD hS 26 1 rfl rfl g24 d_Th_leaveFirst_32 (fun H locs hP hD hS => ?_)
          obtain ⟨σ25, eσ25, hg⟩ := tq_lj_s hg
          replace hP : va_P (dC, dI) tq_cl (wo cI cL cZ ad σ25) H := by rw [eσ25, ← ws_l5]; exact hP
          replace hD : va_D A (wo cI cL cZ ad σ25) := by rw [eσ25, ← ws_l5]; exact hD
          obtain ⟨v26, ev26, hg⟩ := tq_lj_s hg
          refine lv_iinc (v := v26) (lv' := [(3, .int v26), (0, .ref (ad 4)), (1, .int x1), (2, .int x2)]) hx hb d_Th_leaveFirst_33 hl (k := 3) rfl (by rw [ev26]; rfl) (by decide) rfl (fun ls hl => ?_)
          refine lv_goto (tgt := 13) hx hb d_Th_leaveFirst_36 (by decide) ?_
          exact ih.2 hP hD hS (lv_sub hl [1, 2, 3, 0] rfl) (tq_gi hg hn)
  exact (key n0).1 hP hD hS hl h0
