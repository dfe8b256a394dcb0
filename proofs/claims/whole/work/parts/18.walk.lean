theorem d_Mo_work_0 : decode prog_7_method_19_code 0 = .ok (.aload_n 0, 1) := by decide +kernel
theorem d_Mo_work_1 : decode prog_7_method_19_code 1 = .ok (.getfield 77, 3) := by decide +kernel
theorem d_Mo_work_4 : decode prog_7_method_19_code 4 = .ok (.ifCond .eq 4, 3) := by decide +kernel
theorem d_Mo_work_7 : decode prog_7_method_19_code 7 = .ok (.return_, 1) := by decide +kernel
theorem d_Mo_work_8 : decode prog_7_method_19_code 8 = .ok (.iconst 0, 1) := by decide +kernel
theorem d_Mo_work_9 : decode prog_7_method_19_code 9 = .ok (.istore_n 1, 1) := by decide +kernel
theorem d_Mo_work_10 : decode prog_7_method_19_code 10 = .ok (.iload_n 1, 1) := by decide +kernel
theorem d_Mo_work_11 : decode prog_7_method_19_code 11 = .ok (.bipush 16, 2) := by decide +kernel
theorem d_Mo_work_13 : decode prog_7_method_19_code 13 = .ok (.if_icmp .ge 38, 3) := by decide +kernel
theorem d_Mo_work_16 : decode prog_7_method_19_code 16 = .ok (.aload_n 0, 1) := by decide +kernel
theorem d_Mo_work_17 : decode prog_7_method_19_code 17 = .ok (.getfield 57, 3) := by decide +kernel
theorem d_Mo_work_20 : decode prog_7_method_19_code 20 = .ok (.iload_n 1, 1) := by decide +kernel
theorem d_Mo_work_21 : decode prog_7_method_19_code 21 = .ok (.aload_n 0, 1) := by decide +kernel
theorem d_Mo_work_22 : decode prog_7_method_19_code 22 = .ok (.getfield 28, 3) := by decide +kernel
theorem d_Mo_work_25 : decode prog_7_method_19_code 25 = .ok (.iload_n 1, 1) := by decide +kernel
theorem d_Mo_work_26 : decode prog_7_method_19_code 26 = .ok (.baload, 1) := by decide +kernel
theorem d_Mo_work_27 : decode prog_7_method_19_code 27 = .ok (.ifCond .ne 12, 3) := by decide +kernel
theorem d_Mo_work_30 : decode prog_7_method_19_code 30 = .ok (.iload_n 1, 1) := by decide +kernel
theorem d_Mo_work_31 : decode prog_7_method_19_code 31 = .ok (.iconst 4, 1) := by decide +kernel
theorem d_Mo_work_32 : decode prog_7_method_19_code 32 = .ok (.idiv, 1) := by decide +kernel
theorem d_Mo_work_33 : decode prog_7_method_19_code 33 = .ok (.iload_n 1, 1) := by decide +kernel
theorem d_Mo_work_34 : decode prog_7_method_19_code 34 = .ok (.iconst 4, 1) := by decide +kernel
theorem d_Mo_work_35 : decode prog_7_method_19_code 35 = .ok (.irem, 1) := by decide +kernel
theorem d_Mo_work_36 : decode prog_7_method_19_code 36 = .ok (.if_icmp .ne 7, 3) := by decide +kernel
theorem d_Mo_work_39 : decode prog_7_method_19_code 39 = .ok (.iconst 1, 1) := by decide +kernel
theorem d_Mo_work_40 : decode prog_7_method_19_code 40 = .ok (.goto 4, 3) := by decide +kernel
theorem d_Mo_work_43 : decode prog_7_method_19_code 43 = .ok (.iconst 0, 1) := by decide +kernel
theorem d_Mo_work_44 : decode prog_7_method_19_code 44 = .ok (.bastore, 1) := by decide +kernel
theorem d_Mo_work_45 : decode prog_7_method_19_code 45 = .ok (.iinc 1 1, 3) := by decide +kernel
theorem d_Mo_work_48 : decode prog_7_method_19_code 48 = .ok (.goto (-38), 3) := by decide +kernel
theorem d_Mo_work_51 : decode prog_7_method_19_code 51 = .ok (.iconst 0, 1) := by decide +kernel
theorem d_Mo_work_52 : decode prog_7_method_19_code 52 = .ok (.istore_n 1, 1) := by decide +kernel
theorem d_Mo_work_53 : decode prog_7_method_19_code 53 = .ok (.iload_n 1, 1) := by decide +kernel
theorem d_Mo_work_54 : decode prog_7_method_19_code 54 = .ok (.iconst 4, 1) := by decide +kernel
theorem d_Mo_work_55 : decode prog_7_method_19_code 55 = .ok (.if_icmp .ge 78, 3) := by decide +kernel
theorem d_Mo_work_58 : decode prog_7_method_19_code 58 = .ok (.iconst 0, 1) := by decide +kernel
theorem d_Mo_work_59 : decode prog_7_method_19_code 59 = .ok (.istore_n 2, 1) := by decide +kernel
theorem d_Mo_work_60 : decode prog_7_method_19_code 60 = .ok (.iload_n 2, 1) := by decide +kernel
theorem d_Mo_work_61 : decode prog_7_method_19_code 61 = .ok (.bipush 64, 2) := by decide +kernel
theorem d_Mo_work_63 : decode prog_7_method_19_code 63 = .ok (.if_icmp .ge 64, 3) := by decide +kernel
theorem d_Mo_work_66 : decode prog_7_method_19_code 66 = .ok (.aload_n 0, 1) := by decide +kernel
theorem d_Mo_work_67 : decode prog_7_method_19_code 67 = .ok (.getfield 57, 3) := by decide +kernel
theorem d_Mo_work_70 : decode prog_7_method_19_code 70 = .ok (.iconst 4, 1) := by decide +kernel
theorem d_Mo_work_71 : decode prog_7_method_19_code 71 = .ok (.iload_n 2, 1) := by decide +kernel
theorem d_Mo_work_72 : decode prog_7_method_19_code 72 = .ok (.bipush 16, 2) := by decide +kernel
theorem d_Mo_work_74 : decode prog_7_method_19_code 74 = .ok (.idiv, 1) := by decide +kernel
theorem d_Mo_work_75 : decode prog_7_method_19_code 75 = .ok (.imul, 1) := by decide +kernel
theorem d_Mo_work_76 : decode prog_7_method_19_code 76 = .ok (.iload_n 2, 1) := by decide +kernel
theorem d_Mo_work_77 : decode prog_7_method_19_code 77 = .ok (.iconst 4, 1) := by decide +kernel
theorem d_Mo_work_78 : decode prog_7_method_19_code 78 = .ok (.idiv, 1) := by decide +kernel
theorem d_Mo_work_79 : decode prog_7_method_19_code 79 = .ok (.iconst 4, 1) := by decide +kernel
theorem d_Mo_work_80 : decode prog_7_method_19_code 80 = .ok (.irem, 1) := by decide +kernel
theorem d_Mo_work_81 : decode prog_7_method_19_code 81 = .ok (.iadd, 1) := by decide +kernel
theorem d_Mo_work_82 : decode prog_7_method_19_code 82 = .ok (.baload, 1) := by decide +kernel
theorem d_Mo_work_83 : decode prog_7_method_19_code 83 = .ok (.ifCond .eq 38, 3) := by decide +kernel
theorem d_Mo_work_86 : decode prog_7_method_19_code 86 = .ok (.aload_n 0, 1) := by decide +kernel
theorem d_Mo_work_87 : decode prog_7_method_19_code 87 = .ok (.getfield 57, 3) := by decide +kernel
theorem d_Mo_work_90 : decode prog_7_method_19_code 90 = .ok (.iconst 4, 1) := by decide +kernel
theorem d_Mo_work_91 : decode prog_7_method_19_code 91 = .ok (.iload_n 2, 1) := by decide +kernel
theorem d_Mo_work_92 : decode prog_7_method_19_code 92 = .ok (.iconst 4, 1) := by decide +kernel
theorem d_Mo_work_93 : decode prog_7_method_19_code 93 = .ok (.idiv, 1) := by decide +kernel
theorem d_Mo_work_94 : decode prog_7_method_19_code 94 = .ok (.iconst 4, 1) := by decide +kernel
theorem d_Mo_work_95 : decode prog_7_method_19_code 95 = .ok (.irem, 1) := by decide +kernel
theorem d_Mo_work_96 : decode prog_7_method_19_code 96 = .ok (.imul, 1) := by decide +kernel
theorem d_Mo_work_97 : decode prog_7_method_19_code 97 = .ok (.iload_n 2, 1) := by decide +kernel
theorem d_Mo_work_98 : decode prog_7_method_19_code 98 = .ok (.iconst 4, 1) := by decide +kernel
theorem d_Mo_work_99 : decode prog_7_method_19_code 99 = .ok (.irem, 1) := by decide +kernel
theorem d_Mo_work_100 : decode prog_7_method_19_code 100 = .ok (.iadd, 1) := by decide +kernel
theorem d_Mo_work_101 : decode prog_7_method_19_code 101 = .ok (.baload, 1) := by decide +kernel
theorem d_Mo_work_102 : decode prog_7_method_19_code 102 = .ok (.ifCond .eq 19, 3) := by decide +kernel
theorem d_Mo_work_105 : decode prog_7_method_19_code 105 = .ok (.aload_n 0, 1) := by decide +kernel
theorem d_Mo_work_106 : decode prog_7_method_19_code 106 = .ok (.getfield 57, 3) := by decide +kernel
theorem d_Mo_work_109 : decode prog_7_method_19_code 109 = .ok (.iconst 4, 1) := by decide +kernel
theorem d_Mo_work_110 : decode prog_7_method_19_code 110 = .ok (.iload_n 2, 1) := by decide +kernel
theorem d_Mo_work_111 : decode prog_7_method_19_code 111 = .ok (.bipush 16, 2) := by decide +kernel
theorem d_Mo_work_113 : decode prog_7_method_19_code 113 = .ok (.idiv, 1) := by decide +kernel
theorem d_Mo_work_114 : decode prog_7_method_19_code 114 = .ok (.imul, 1) := by decide +kernel
theorem d_Mo_work_115 : decode prog_7_method_19_code 115 = .ok (.iload_n 2, 1) := by decide +kernel
theorem d_Mo_work_116 : decode prog_7_method_19_code 116 = .ok (.iconst 4, 1) := by decide +kernel
theorem d_Mo_work_117 : decode prog_7_method_19_code 117 = .ok (.irem, 1) := by decide +kernel
theorem d_Mo_work_118 : decode prog_7_method_19_code 118 = .ok (.iadd, 1) := by decide +kernel
theorem d_Mo_work_119 : decode prog_7_method_19_code 119 = .ok (.iconst 1, 1) := by decide +kernel
theorem d_Mo_work_120 : decode prog_7_method_19_code 120 = .ok (.bastore, 1) := by decide +kernel
theorem d_Mo_work_121 : decode prog_7_method_19_code 121 = .ok (.iinc 2 1, 3) := by decide +kernel
theorem d_Mo_work_124 : decode prog_7_method_19_code 124 = .ok (.goto (-64), 3) := by decide +kernel
theorem d_Mo_work_127 : decode prog_7_method_19_code 127 = .ok (.iinc 1 1, 3) := by decide +kernel
theorem d_Mo_work_130 : decode prog_7_method_19_code 130 = .ok (.goto (-77), 3) := by decide +kernel
theorem d_Mo_work_133 : decode prog_7_method_19_code 133 = .ok (.iconst 0, 1) := by decide +kernel
theorem d_Mo_work_134 : decode prog_7_method_19_code 134 = .ok (.istore_n 1, 1) := by decide +kernel
theorem d_Mo_work_135 : decode prog_7_method_19_code 135 = .ok (.iload_n 1, 1) := by decide +kernel
theorem d_Mo_work_136 : decode prog_7_method_19_code 136 = .ok (.aload_n 0, 1) := by decide +kernel
theorem d_Mo_work_137 : decode prog_7_method_19_code 137 = .ok (.invokevirtual 102, 3) := by decide +kernel
theorem d_Mo_work_140 : decode prog_7_method_19_code 140 = .ok (.if_icmp .ge 171, 3) := by decide +kernel
theorem d_Mo_work_143 : decode prog_7_method_19_code 143 = .ok (.iconst 0, 1) := by decide +kernel
theorem d_Mo_work_144 : decode prog_7_method_19_code 144 = .ok (.istore_n 2, 1) := by decide +kernel
theorem d_Mo_work_145 : decode prog_7_method_19_code 145 = .ok (.iload_n 2, 1) := by decide +kernel
theorem d_Mo_work_146 : decode prog_7_method_19_code 146 = .ok (.aload_n 0, 1) := by decide +kernel
theorem d_Mo_work_147 : decode prog_7_method_19_code 147 = .ok (.getfield 66, 3) := by decide +kernel
theorem d_Mo_work_150 : decode prog_7_method_19_code 150 = .ok (.if_icmp .ge 26, 3) := by decide +kernel
theorem d_Mo_work_153 : decode prog_7_method_19_code 153 = .ok (.aload_n 0, 1) := by decide +kernel
theorem d_Mo_work_154 : decode prog_7_method_19_code 154 = .ok (.getfield 48, 3) := by decide +kernel
theorem d_Mo_work_157 : decode prog_7_method_19_code 157 = .ok (.bipush 80, 2) := by decide +kernel
theorem d_Mo_work_159 : decode prog_7_method_19_code 159 = .ok (.iload_n 1, 1) := by decide +kernel
theorem d_Mo_work_160 : decode prog_7_method_19_code 160 = .ok (.imul, 1) := by decide +kernel
theorem d_Mo_work_161 : decode prog_7_method_19_code 161 = .ok (.iload_n 2, 1) := by decide +kernel
theorem d_Mo_work_162 : decode prog_7_method_19_code 162 = .ok (.iadd, 1) := by decide +kernel
theorem d_Mo_work_163 : decode prog_7_method_19_code 163 = .ok (.aload_n 0, 1) := by decide +kernel
theorem d_Mo_work_164 : decode prog_7_method_19_code 164 = .ok (.iload_n 1, 1) := by decide +kernel
theorem d_Mo_work_165 : decode prog_7_method_19_code 165 = .ok (.iload_n 2, 1) := by decide +kernel
theorem d_Mo_work_166 : decode prog_7_method_19_code 166 = .ok (.invokevirtual 106, 3) := by decide +kernel
theorem d_Mo_work_169 : decode prog_7_method_19_code 169 = .ok (.bastore, 1) := by decide +kernel
theorem d_Mo_work_170 : decode prog_7_method_19_code 170 = .ok (.iinc 2 1, 3) := by decide +kernel
theorem d_Mo_work_173 : decode prog_7_method_19_code 173 = .ok (.goto (-28), 3) := by decide +kernel
theorem d_Mo_work_176 : decode prog_7_method_19_code 176 = .ok (.aload_n 0, 1) := by decide +kernel
theorem d_Mo_work_177 : decode prog_7_method_19_code 177 = .ok (.getfield 54, 3) := by decide +kernel
theorem d_Mo_work_180 : decode prog_7_method_19_code 180 = .ok (.iload_n 1, 1) := by decide +kernel
theorem d_Mo_work_181 : decode prog_7_method_19_code 181 = .ok (.iconst 0, 1) := by decide +kernel
theorem d_Mo_work_182 : decode prog_7_method_19_code 182 = .ok (.iastore, 1) := by decide +kernel
theorem d_Mo_work_183 : decode prog_7_method_19_code 183 = .ok (.iconst 0, 1) := by decide +kernel
theorem d_Mo_work_184 : decode prog_7_method_19_code 184 = .ok (.istore_n 2, 1) := by decide +kernel
theorem d_Mo_work_185 : decode prog_7_method_19_code 185 = .ok (.iload_n 2, 1) := by decide +kernel
theorem d_Mo_work_186 : decode prog_7_method_19_code 186 = .ok (.aload_n 0, 1) := by decide +kernel
theorem d_Mo_work_187 : decode prog_7_method_19_code 187 = .ok (.getfield 91, 3) := by decide +kernel
theorem d_Mo_work_190 : decode prog_7_method_19_code 190 = .ok (.if_icmp .ge 45, 3) := by decide +kernel
theorem d_Mo_work_193 : decode prog_7_method_19_code 193 = .ok (.aload_n 0, 1) := by decide +kernel
theorem d_Mo_work_194 : decode prog_7_method_19_code 194 = .ok (.iload_n 1, 1) := by decide +kernel
theorem d_Mo_work_195 : decode prog_7_method_19_code 195 = .ok (.aload_n 0, 1) := by decide +kernel
theorem d_Mo_work_196 : decode prog_7_method_19_code 196 = .ok (.getfield 22, 3) := by decide +kernel
theorem d_Mo_work_199 : decode prog_7_method_19_code 199 = .ok (.iload_n 2, 1) := by decide +kernel
theorem d_Mo_work_200 : decode prog_7_method_19_code 200 = .ok (.iaload, 1) := by decide +kernel
theorem d_Mo_work_201 : decode prog_7_method_19_code 201 = .ok (.invokevirtual 98, 3) := by decide +kernel
theorem d_Mo_work_204 : decode prog_7_method_19_code 204 = .ok (.ifCond .eq 25, 3) := by decide +kernel
theorem d_Mo_work_207 : decode prog_7_method_19_code 207 = .ok (.aload_n 0, 1) := by decide +kernel
theorem d_Mo_work_208 : decode prog_7_method_19_code 208 = .ok (.iload_n 1, 1) := by decide +kernel
theorem d_Mo_work_209 : decode prog_7_method_19_code 209 = .ok (.aload_n 0, 1) := by decide +kernel
theorem d_Mo_work_210 : decode prog_7_method_19_code 210 = .ok (.getfield 25, 3) := by decide +kernel
theorem d_Mo_work_213 : decode prog_7_method_19_code 213 = .ok (.iload_n 2, 1) := by decide +kernel
theorem d_Mo_work_214 : decode prog_7_method_19_code 214 = .ok (.iaload, 1) := by decide +kernel
theorem d_Mo_work_215 : decode prog_7_method_19_code 215 = .ok (.invokevirtual 98, 3) := by decide +kernel
theorem d_Mo_work_218 : decode prog_7_method_19_code 218 = .ok (.ifCond .ne 11, 3) := by decide +kernel
theorem d_Mo_work_221 : decode prog_7_method_19_code 221 = .ok (.aload_n 0, 1) := by decide +kernel
theorem d_Mo_work_222 : decode prog_7_method_19_code 222 = .ok (.getfield 54, 3) := by decide +kernel
theorem d_Mo_work_225 : decode prog_7_method_19_code 225 = .ok (.iload_n 1, 1) := by decide +kernel
theorem d_Mo_work_226 : decode prog_7_method_19_code 226 = .ok (.bipush (-2), 2) := by decide +kernel
theorem d_Mo_work_228 : decode prog_7_method_19_code 228 = .ok (.iastore, 1) := by decide +kernel
theorem d_Mo_work_229 : decode prog_7_method_19_code 229 = .ok (.iinc 2 1, 3) := by decide +kernel
theorem d_Mo_work_232 : decode prog_7_method_19_code 232 = .ok (.goto (-47), 3) := by decide +kernel
theorem d_Mo_work_235 : decode prog_7_method_19_code 235 = .ok (.aload_n 0, 1) := by decide +kernel
theorem d_Mo_work_236 : decode prog_7_method_19_code 236 = .ok (.getfield 51, 3) := by decide +kernel
theorem d_Mo_work_239 : decode prog_7_method_19_code 239 = .ok (.iload_n 1, 1) := by decide +kernel
theorem d_Mo_work_240 : decode prog_7_method_19_code 240 = .ok (.iconst 0, 1) := by decide +kernel
theorem d_Mo_work_241 : decode prog_7_method_19_code 241 = .ok (.iastore, 1) := by decide +kernel
theorem d_Mo_work_242 : decode prog_7_method_19_code 242 = .ok (.iconst 0, 1) := by decide +kernel
theorem d_Mo_work_243 : decode prog_7_method_19_code 243 = .ok (.istore_n 2, 1) := by decide +kernel
theorem d_Mo_work_244 : decode prog_7_method_19_code 244 = .ok (.iload_n 2, 1) := by decide +kernel
theorem d_Mo_work_245 : decode prog_7_method_19_code 245 = .ok (.aload_n 0, 1) := by decide +kernel
theorem d_Mo_work_246 : decode prog_7_method_19_code 246 = .ok (.getfield 74, 3) := by decide +kernel
theorem d_Mo_work_249 : decode prog_7_method_19_code 249 = .ok (.if_icmp .ge 56, 3) := by decide +kernel
theorem d_Mo_work_252 : decode prog_7_method_19_code 252 = .ok (.aload_n 0, 1) := by decide +kernel
theorem d_Mo_work_253 : decode prog_7_method_19_code 253 = .ok (.getfield 7, 3) := by decide +kernel
theorem d_Mo_work_256 : decode prog_7_method_19_code 256 = .ok (.aload_n 0, 1) := by decide +kernel
theorem d_Mo_work_257 : decode prog_7_method_19_code 257 = .ok (.getfield 19, 3) := by decide +kernel
theorem d_Mo_work_260 : decode prog_7_method_19_code 260 = .ok (.iload_n 2, 1) := by decide +kernel
theorem d_Mo_work_261 : decode prog_7_method_19_code 261 = .ok (.iaload, 1) := by decide +kernel
theorem d_Mo_work_262 : decode prog_7_method_19_code 262 = .ok (.iaload, 1) := by decide +kernel
theorem d_Mo_work_263 : decode prog_7_method_19_code 263 = .ok (.bipush 6, 2) := by decide +kernel
theorem d_Mo_work_265 : decode prog_7_method_19_code 265 = .ok (.if_icmp .ne 34, 3) := by decide +kernel
theorem d_Mo_work_268 : decode prog_7_method_19_code 268 = .ok (.aload_n 0, 1) := by decide +kernel
theorem d_Mo_work_269 : decode prog_7_method_19_code 269 = .ok (.iload_n 1, 1) := by decide +kernel
theorem d_Mo_work_270 : decode prog_7_method_19_code 270 = .ok (.aload_n 0, 1) := by decide +kernel
theorem d_Mo_work_271 : decode prog_7_method_19_code 271 = .ok (.getfield 16, 3) := by decide +kernel
theorem d_Mo_work_274 : decode prog_7_method_19_code 274 = .ok (.aload_n 0, 1) := by decide +kernel
theorem d_Mo_work_275 : decode prog_7_method_19_code 275 = .ok (.getfield 19, 3) := by decide +kernel
theorem d_Mo_work_278 : decode prog_7_method_19_code 278 = .ok (.iload_n 2, 1) := by decide +kernel
theorem d_Mo_work_279 : decode prog_7_method_19_code 279 = .ok (.iaload, 1) := by decide +kernel
theorem d_Mo_work_280 : decode prog_7_method_19_code 280 = .ok (.iaload, 1) := by decide +kernel
theorem d_Mo_work_281 : decode prog_7_method_19_code 281 = .ok (.invokevirtual 98, 3) := by decide +kernel
theorem d_Mo_work_284 : decode prog_7_method_19_code 284 = .ok (.ifCond .eq 15, 3) := by decide +kernel
theorem d_Mo_work_287 : decode prog_7_method_19_code 287 = .ok (.aload_n 0, 1) := by decide +kernel
theorem d_Mo_work_288 : decode prog_7_method_19_code 288 = .ok (.getfield 51, 3) := by decide +kernel
theorem d_Mo_work_291 : decode prog_7_method_19_code 291 = .ok (.iload_n 1, 1) := by decide +kernel
theorem d_Mo_work_292 : decode prog_7_method_19_code 292 = .ok (.dup2, 1) := by decide +kernel
theorem d_Mo_work_293 : decode prog_7_method_19_code 293 = .ok (.iaload, 1) := by decide +kernel
theorem d_Mo_work_294 : decode prog_7_method_19_code 294 = .ok (.iconst 1, 1) := by decide +kernel
theorem d_Mo_work_295 : decode prog_7_method_19_code 295 = .ok (.iload_n 2, 1) := by decide +kernel
theorem d_Mo_work_296 : decode prog_7_method_19_code 296 = .ok (.ishl, 1) := by decide +kernel
theorem d_Mo_work_297 : decode prog_7_method_19_code 297 = .ok (.ior, 1) := by decide +kernel
theorem d_Mo_work_298 : decode prog_7_method_19_code 298 = .ok (.iastore, 1) := by decide +kernel
theorem d_Mo_work_299 : decode prog_7_method_19_code 299 = .ok (.iinc 2 1, 3) := by decide +kernel
theorem d_Mo_work_302 : decode prog_7_method_19_code 302 = .ok (.goto (-58), 3) := by decide +kernel
theorem d_Mo_work_305 : decode prog_7_method_19_code 305 = .ok (.iinc 1 1, 3) := by decide +kernel
theorem d_Mo_work_308 : decode prog_7_method_19_code 308 = .ok (.goto (-173), 3) := by decide +kernel
theorem d_Mo_work_311 : decode prog_7_method_19_code 311 = .ok (.aload_n 0, 1) := by decide +kernel
theorem d_Mo_work_312 : decode prog_7_method_19_code 312 = .ok (.iconst 1, 1) := by decide +kernel
theorem d_Mo_work_313 : decode prog_7_method_19_code 313 = .ok (.putfield 77, 3) := by decide +kernel
theorem d_Mo_work_316 : decode prog_7_method_19_code 316 = .ok (.aload_n 0, 1) := by decide +kernel
theorem d_Mo_work_317 : decode prog_7_method_19_code 317 = .ok (.iconst 0, 1) := by decide +kernel
theorem d_Mo_work_318 : decode prog_7_method_19_code 318 = .ok (.putfield 109, 3) := by decide +kernel
theorem d_Mo_work_321 : decode prog_7_method_19_code 321 = .ok (.aload_n 0, 1) := by decide +kernel
theorem d_Mo_work_322 : decode prog_7_method_19_code 322 = .ok (.aload_n 0, 1) := by decide +kernel
theorem d_Mo_work_323 : decode prog_7_method_19_code 323 = .ok (.getfield 109, 3) := by decide +kernel
theorem d_Mo_work_326 : decode prog_7_method_19_code 326 = .ok (.iconst 1, 1) := by decide +kernel
theorem d_Mo_work_327 : decode prog_7_method_19_code 327 = .ok (.iadd, 1) := by decide +kernel
theorem d_Mo_work_328 : decode prog_7_method_19_code 328 = .ok (.invokevirtual 112, 3) := by decide +kernel
theorem d_Mo_work_331 : decode prog_7_method_19_code 331 = .ok (.ifCond .eq 16, 3) := by decide +kernel
theorem d_Mo_work_334 : decode prog_7_method_19_code 334 = .ok (.aload_n 0, 1) := by decide +kernel
theorem d_Mo_work_335 : decode prog_7_method_19_code 335 = .ok (.dup, 1) := by decide +kernel
theorem d_Mo_work_336 : decode prog_7_method_19_code 336 = .ok (.getfield 109, 3) := by decide +kernel
theorem d_Mo_work_339 : decode prog_7_method_19_code 339 = .ok (.iconst 1, 1) := by decide +kernel
theorem d_Mo_work_340 : decode prog_7_method_19_code 340 = .ok (.iadd, 1) := by decide +kernel
theorem d_Mo_work_341 : decode prog_7_method_19_code 341 = .ok (.putfield 109, 3) := by decide +kernel
theorem d_Mo_work_344 : decode prog_7_method_19_code 344 = .ok (.goto (-23), 3) := by decide +kernel
theorem d_Mo_work_347 : decode prog_7_method_19_code 347 = .ok (.return_, 1) := by decide +kernel
theorem d_Mo_sees_0 : decode prog_7_method_21_code 0 = .ok (.aload_n 0, 1) := by decide +kernel
theorem d_Mo_sees_1 : decode prog_7_method_21_code 1 = .ok (.iload_n 1, 1) := by decide +kernel
theorem d_Mo_sees_2 : decode prog_7_method_21_code 2 = .ok (.iload_n 3, 1) := by decide +kernel
theorem d_Mo_sees_3 : decode prog_7_method_21_code 3 = .ok (.invokevirtual 115, 3) := by decide +kernel
theorem d_Mo_sees_6 : decode prog_7_method_21_code 6 = .ok (.aload_n 0, 1) := by decide +kernel
theorem d_Mo_sees_7 : decode prog_7_method_21_code 7 = .ok (.getfield 51, 3) := by decide +kernel
theorem d_Mo_sees_10 : decode prog_7_method_21_code 10 = .ok (.iload_n 2, 1) := by decide +kernel
theorem d_Mo_sees_11 : decode prog_7_method_21_code 11 = .ok (.iaload, 1) := by decide +kernel
theorem d_Mo_sees_12 : decode prog_7_method_21_code 12 = .ok (.iand, 1) := by decide +kernel
theorem d_Mo_sees_13 : decode prog_7_method_21_code 13 = .ok (.ifCond .ne 7, 3) := by decide +kernel
theorem d_Mo_sees_16 : decode prog_7_method_21_code 16 = .ok (.iconst 1, 1) := by decide +kernel
theorem d_Mo_sees_17 : decode prog_7_method_21_code 17 = .ok (.goto 4, 3) := by decide +kernel
theorem d_Mo_sees_20 : decode prog_7_method_21_code 20 = .ok (.iconst 0, 1) := by decide +kernel
theorem d_Mo_sees_21 : decode prog_7_method_21_code 21 = .ok (.ireturn, 1) := by decide +kernel
theorem d_Mo_can_0 : decode prog_7_method_24_code 0 = .ok (.aload_n 0, 1) := by decide +kernel
theorem d_Mo_can_1 : decode prog_7_method_24_code 1 = .ok (.iload_n 1, 1) := by decide +kernel
theorem d_Mo_can_2 : decode prog_7_method_24_code 2 = .ok (.invokevirtual 84, 3) := by decide +kernel
theorem d_Mo_can_5 : decode prog_7_method_24_code 5 = .ok (.ifCond .ne 5, 3) := by decide +kernel
theorem d_Mo_can_8 : decode prog_7_method_24_code 8 = .ok (.iconst (-1), 1) := by decide +kernel
theorem d_Mo_can_9 : decode prog_7_method_24_code 9 = .ok (.ireturn, 1) := by decide +kernel
theorem d_Mo_can_10 : decode prog_7_method_24_code 10 = .ok (.aload_n 0, 1) := by decide +kernel
theorem d_Mo_can_11 : decode prog_7_method_24_code 11 = .ok (.invokevirtual 123, 3) := by decide +kernel
theorem d_Mo_can_14 : decode prog_7_method_24_code 14 = .ok (.iconst 0, 1) := by decide +kernel
theorem d_Mo_can_15 : decode prog_7_method_24_code 15 = .ok (.istore_n 2, 1) := by decide +kernel
theorem d_Mo_can_16 : decode prog_7_method_24_code 16 = .ok (.iload_n 2, 1) := by decide +kernel
theorem d_Mo_can_17 : decode prog_7_method_24_code 17 = .ok (.aload_n 0, 1) := by decide +kernel
theorem d_Mo_can_18 : decode prog_7_method_24_code 18 = .ok (.invokevirtual 102, 3) := by decide +kernel
theorem d_Mo_can_21 : decode prog_7_method_24_code 21 = .ok (.if_icmp .ge 27, 3) := by decide +kernel
theorem d_Mo_can_24 : decode prog_7_method_24_code 24 = .ok (.aload_n 0, 1) := by decide +kernel
theorem d_Mo_can_25 : decode prog_7_method_24_code 25 = .ok (.getfield 54, 3) := by decide +kernel
theorem d_Mo_can_28 : decode prog_7_method_24_code 28 = .ok (.iload_n 2, 1) := by decide +kernel
theorem d_Mo_can_29 : decode prog_7_method_24_code 29 = .ok (.iaload, 1) := by decide +kernel
theorem d_Mo_can_30 : decode prog_7_method_24_code 30 = .ok (.ifCond .ne 12, 3) := by decide +kernel
theorem d_Mo_can_33 : decode prog_7_method_24_code 33 = .ok (.aload_n 0, 1) := by decide +kernel
theorem d_Mo_can_34 : decode prog_7_method_24_code 34 = .ok (.iload_n 2, 1) := by decide +kernel
theorem d_Mo_can_35 : decode prog_7_method_24_code 35 = .ok (.iload_n 1, 1) := by decide +kernel
theorem d_Mo_can_36 : decode prog_7_method_24_code 36 = .ok (.invokevirtual 98, 3) := by decide +kernel
theorem d_Mo_can_39 : decode prog_7_method_24_code 39 = .ok (.ifCond .ne 9, 3) := by decide +kernel
theorem d_Mo_can_42 : decode prog_7_method_24_code 42 = .ok (.iinc 2 1, 3) := by decide +kernel
theorem d_Mo_can_45 : decode prog_7_method_24_code 45 = .ok (.goto (-29), 3) := by decide +kernel
theorem d_Mo_can_48 : decode prog_7_method_24_code 48 = .ok (.iload_n 2, 1) := by decide +kernel
theorem d_Mo_can_49 : decode prog_7_method_24_code 49 = .ok (.aload_n 0, 1) := by decide +kernel
theorem d_Mo_can_50 : decode prog_7_method_24_code 50 = .ok (.invokevirtual 102, 3) := by decide +kernel
theorem d_Mo_can_53 : decode prog_7_method_24_code 53 = .ok (.if_icmp .ge 7, 3) := by decide +kernel
theorem d_Mo_can_56 : decode prog_7_method_24_code 56 = .ok (.iconst 1, 1) := by decide +kernel
theorem d_Mo_can_57 : decode prog_7_method_24_code 57 = .ok (.goto 4, 3) := by decide +kernel
theorem d_Mo_can_60 : decode prog_7_method_24_code 60 = .ok (.iconst 0, 1) := by decide +kernel
theorem d_Mo_can_61 : decode prog_7_method_24_code 61 = .ok (.ireturn, 1) := by decide +kernel
theorem d_Mo_below_0 : decode prog_7_method_25_code 0 = .ok (.aload_n 0, 1) := by decide +kernel
theorem d_Mo_below_1 : decode prog_7_method_25_code 1 = .ok (.iload_n 1, 1) := by decide +kernel
theorem d_Mo_below_2 : decode prog_7_method_25_code 2 = .ok (.invokevirtual 84, 3) := by decide +kernel
theorem d_Mo_below_5 : decode prog_7_method_25_code 5 = .ok (.ifCond .eq 11, 3) := by decide +kernel
theorem d_Mo_below_8 : decode prog_7_method_25_code 8 = .ok (.aload_n 0, 1) := by decide +kernel
theorem d_Mo_below_9 : decode prog_7_method_25_code 9 = .ok (.iload_n 2, 1) := by decide +kernel
theorem d_Mo_below_10 : decode prog_7_method_25_code 10 = .ok (.invokevirtual 84, 3) := by decide +kernel
theorem d_Mo_below_13 : decode prog_7_method_25_code 13 = .ok (.ifCond .ne 5, 3) := by decide +kernel
theorem d_Mo_below_16 : decode prog_7_method_25_code 16 = .ok (.iconst (-1), 1) := by decide +kernel
theorem d_Mo_below_17 : decode prog_7_method_25_code 17 = .ok (.ireturn, 1) := by decide +kernel
theorem d_Mo_below_18 : decode prog_7_method_25_code 18 = .ok (.aload_n 0, 1) := by decide +kernel
theorem d_Mo_below_19 : decode prog_7_method_25_code 19 = .ok (.invokevirtual 123, 3) := by decide +kernel
theorem d_Mo_below_22 : decode prog_7_method_25_code 22 = .ok (.iconst 0, 1) := by decide +kernel
theorem d_Mo_below_23 : decode prog_7_method_25_code 23 = .ok (.istore_n 3, 1) := by decide +kernel
theorem d_Mo_below_24 : decode prog_7_method_25_code 24 = .ok (.iload_n 3, 1) := by decide +kernel
theorem d_Mo_below_25 : decode prog_7_method_25_code 25 = .ok (.aload_n 0, 1) := by decide +kernel
theorem d_Mo_below_26 : decode prog_7_method_25_code 26 = .ok (.invokevirtual 102, 3) := by decide +kernel
theorem d_Mo_below_29 : decode prog_7_method_25_code 29 = .ok (.if_icmp .ge 36, 3) := by decide +kernel
theorem d_Mo_below_32 : decode prog_7_method_25_code 32 = .ok (.aload_n 0, 1) := by decide +kernel
theorem d_Mo_below_33 : decode prog_7_method_25_code 33 = .ok (.getfield 54, 3) := by decide +kernel
theorem d_Mo_below_36 : decode prog_7_method_25_code 36 = .ok (.iload_n 3, 1) := by decide +kernel
theorem d_Mo_below_37 : decode prog_7_method_25_code 37 = .ok (.iaload, 1) := by decide +kernel
theorem d_Mo_below_38 : decode prog_7_method_25_code 38 = .ok (.ifCond .ne 21, 3) := by decide +kernel
theorem d_Mo_below_41 : decode prog_7_method_25_code 41 = .ok (.aload_n 0, 1) := by decide +kernel
theorem d_Mo_below_42 : decode prog_7_method_25_code 42 = .ok (.iload_n 3, 1) := by decide +kernel
theorem d_Mo_below_43 : decode prog_7_method_25_code 43 = .ok (.iload_n 1, 1) := by decide +kernel
theorem d_Mo_below_44 : decode prog_7_method_25_code 44 = .ok (.invokevirtual 98, 3) := by decide +kernel
theorem d_Mo_below_47 : decode prog_7_method_25_code 47 = .ok (.ifCond .eq 12, 3) := by decide +kernel
theorem d_Mo_below_50 : decode prog_7_method_25_code 50 = .ok (.aload_n 0, 1) := by decide +kernel
theorem d_Mo_below_51 : decode prog_7_method_25_code 51 = .ok (.iload_n 3, 1) := by decide +kernel
theorem d_Mo_below_52 : decode prog_7_method_25_code 52 = .ok (.iload_n 2, 1) := by decide +kernel
theorem d_Mo_below_53 : decode prog_7_method_25_code 53 = .ok (.invokevirtual 98, 3) := by decide +kernel
theorem d_Mo_below_56 : decode prog_7_method_25_code 56 = .ok (.ifCond .eq 9, 3) := by decide +kernel
theorem d_Mo_below_59 : decode prog_7_method_25_code 59 = .ok (.iinc 3 1, 3) := by decide +kernel
theorem d_Mo_below_62 : decode prog_7_method_25_code 62 = .ok (.goto (-38), 3) := by decide +kernel
theorem d_Mo_below_65 : decode prog_7_method_25_code 65 = .ok (.iload_n 3, 1) := by decide +kernel
theorem d_Mo_below_66 : decode prog_7_method_25_code 66 = .ok (.aload_n 0, 1) := by decide +kernel
theorem d_Mo_below_67 : decode prog_7_method_25_code 67 = .ok (.invokevirtual 102, 3) := by decide +kernel
theorem d_Mo_below_70 : decode prog_7_method_25_code 70 = .ok (.if_icmp .ge 7, 3) := by decide +kernel
theorem d_Mo_below_73 : decode prog_7_method_25_code 73 = .ok (.iconst 0, 1) := by decide +kernel
theorem d_Mo_below_74 : decode prog_7_method_25_code 74 = .ok (.goto 4, 3) := by decide +kernel
theorem d_Mo_below_77 : decode prog_7_method_25_code 77 = .ok (.iconst 1, 1) := by decide +kernel
theorem d_Mo_below_78 : decode prog_7_method_25_code 78 = .ok (.ireturn, 1) := by decide +kernel
theorem d_Mo_types_0 : decode prog_7_method_26_code 0 = .ok (.aload_n 0, 1) := by decide +kernel
theorem d_Mo_types_1 : decode prog_7_method_26_code 1 = .ok (.invokevirtual 123, 3) := by decide +kernel
theorem d_Mo_types_4 : decode prog_7_method_26_code 4 = .ok (.iconst 0, 1) := by decide +kernel
theorem d_Mo_types_5 : decode prog_7_method_26_code 5 = .ok (.istore_n 1, 1) := by decide +kernel
theorem d_Mo_types_6 : decode prog_7_method_26_code 6 = .ok (.iconst 0, 1) := by decide +kernel
theorem d_Mo_types_7 : decode prog_7_method_26_code 7 = .ok (.istore_n 2, 1) := by decide +kernel
theorem d_Mo_types_8 : decode prog_7_method_26_code 8 = .ok (.iload_n 2, 1) := by decide +kernel
theorem d_Mo_types_9 : decode prog_7_method_26_code 9 = .ok (.aload_n 0, 1) := by decide +kernel
theorem d_Mo_types_10 : decode prog_7_method_26_code 10 = .ok (.invokevirtual 102, 3) := by decide +kernel
theorem d_Mo_types_13 : decode prog_7_method_26_code 13 = .ok (.if_icmp .ge 26, 3) := by decide +kernel
theorem d_Mo_types_16 : decode prog_7_method_26_code 16 = .ok (.iload_n 1, 1) := by decide +kernel
theorem d_Mo_types_17 : decode prog_7_method_26_code 17 = .ok (.aload_n 0, 1) := by decide +kernel
theorem d_Mo_types_18 : decode prog_7_method_26_code 18 = .ok (.getfield 54, 3) := by decide +kernel
theorem d_Mo_types_21 : decode prog_7_method_26_code 21 = .ok (.iload_n 2, 1) := by decide +kernel
theorem d_Mo_types_22 : decode prog_7_method_26_code 22 = .ok (.iaload, 1) := by decide +kernel
theorem d_Mo_types_23 : decode prog_7_method_26_code 23 = .ok (.ifCond .ne 7, 3) := by decide +kernel
theorem d_Mo_types_26 : decode prog_7_method_26_code 26 = .ok (.iconst 1, 1) := by decide +kernel
theorem d_Mo_types_27 : decode prog_7_method_26_code 27 = .ok (.goto 4, 3) := by decide +kernel
theorem d_Mo_types_30 : decode prog_7_method_26_code 30 = .ok (.iconst 0, 1) := by decide +kernel
theorem d_Mo_types_31 : decode prog_7_method_26_code 31 = .ok (.iadd, 1) := by decide +kernel
theorem d_Mo_types_32 : decode prog_7_method_26_code 32 = .ok (.istore_n 1, 1) := by decide +kernel
theorem d_Mo_types_33 : decode prog_7_method_26_code 33 = .ok (.iinc 2 1, 3) := by decide +kernel
theorem d_Mo_types_36 : decode prog_7_method_26_code 36 = .ok (.goto (-28), 3) := by decide +kernel
theorem d_Mo_types_39 : decode prog_7_method_26_code 39 = .ok (.iload_n 1, 1) := by decide +kernel
theorem d_Mo_types_40 : decode prog_7_method_26_code 40 = .ok (.ireturn, 1) := by decide +kernel
theorem d_Mo_rounds_0 : decode prog_7_method_27_code 0 = .ok (.aload_n 0, 1) := by decide +kernel
theorem d_Mo_rounds_1 : decode prog_7_method_27_code 1 = .ok (.invokevirtual 123, 3) := by decide +kernel
theorem d_Mo_rounds_4 : decode prog_7_method_27_code 4 = .ok (.aload_n 0, 1) := by decide +kernel
theorem d_Mo_rounds_5 : decode prog_7_method_27_code 5 = .ok (.getfield 109, 3) := by decide +kernel
theorem d_Mo_rounds_8 : decode prog_7_method_27_code 8 = .ok (.ireturn, 1) := by decide +kernel
theorem d_Mo_depth_0 : decode prog_7_method_28_code 0 = .ok (.aload_n 0, 1) := by decide +kernel
theorem d_Mo_depth_1 : decode prog_7_method_28_code 1 = .ok (.invokevirtual 123, 3) := by decide +kernel
theorem d_Mo_depth_4 : decode prog_7_method_28_code 4 = .ok (.iload_n 1, 1) := by decide +kernel
theorem d_Mo_depth_5 : decode prog_7_method_28_code 5 = .ok (.ifCond .lt 20, 3) := by decide +kernel
theorem d_Mo_depth_8 : decode prog_7_method_28_code 8 = .ok (.iload_n 1, 1) := by decide +kernel
theorem d_Mo_depth_9 : decode prog_7_method_28_code 9 = .ok (.aload_n 0, 1) := by decide +kernel
theorem d_Mo_depth_10 : decode prog_7_method_28_code 10 = .ok (.invokevirtual 102, 3) := by decide +kernel
theorem d_Mo_depth_13 : decode prog_7_method_28_code 13 = .ok (.if_icmp .ge 12, 3) := by decide +kernel
theorem d_Mo_depth_16 : decode prog_7_method_28_code 16 = .ok (.aload_n 0, 1) := by decide +kernel
theorem d_Mo_depth_17 : decode prog_7_method_28_code 17 = .ok (.getfield 54, 3) := by decide +kernel
theorem d_Mo_depth_20 : decode prog_7_method_28_code 20 = .ok (.iload_n 1, 1) := by decide +kernel
theorem d_Mo_depth_21 : decode prog_7_method_28_code 21 = .ok (.iaload, 1) := by decide +kernel
theorem d_Mo_depth_22 : decode prog_7_method_28_code 22 = .ok (.goto 4, 3) := by decide +kernel
theorem d_Mo_depth_25 : decode prog_7_method_28_code 25 = .ok (.iconst (-1), 1) := by decide +kernel
theorem d_Mo_depth_26 : decode prog_7_method_28_code 26 = .ok (.ireturn, 1) := by decide +kernel
theorem d_Mo_individual_0 : decode prog_7_method_29_code 0 = .ok (.iload_n 1, 1) := by decide +kernel
theorem d_Mo_individual_1 : decode prog_7_method_29_code 1 = .ok (.invokestatic 126, 3) := by decide +kernel
theorem d_Mo_individual_4 : decode prog_7_method_29_code 4 = .ok (.ifCond .eq 11, 3) := by decide +kernel
theorem d_Mo_individual_7 : decode prog_7_method_29_code 7 = .ok (.aload_n 0, 1) := by decide +kernel
theorem d_Mo_individual_8 : decode prog_7_method_29_code 8 = .ok (.iload_n 2, 1) := by decide +kernel
theorem d_Mo_individual_9 : decode prog_7_method_29_code 9 = .ok (.invokevirtual 84, 3) := by decide +kernel
theorem d_Mo_individual_12 : decode prog_7_method_29_code 12 = .ok (.ifCond .ne 5, 3) := by decide +kernel
theorem d_Mo_individual_15 : decode prog_7_method_29_code 15 = .ok (.iconst (-1), 1) := by decide +kernel
theorem d_Mo_individual_16 : decode prog_7_method_29_code 16 = .ok (.ireturn, 1) := by decide +kernel
theorem d_Mo_individual_17 : decode prog_7_method_29_code 17 = .ok (.aload_n 0, 1) := by decide +kernel
theorem d_Mo_individual_18 : decode prog_7_method_29_code 18 = .ok (.getfield 129, 3) := by decide +kernel
theorem d_Mo_individual_21 : decode prog_7_method_29_code 21 = .ok (.bipush 40, 2) := by decide +kernel
theorem d_Mo_individual_23 : decode prog_7_method_29_code 23 = .ok (.if_icmp .ne 6, 3) := by decide +kernel
theorem d_Mo_individual_26 : decode prog_7_method_29_code 26 = .ok (.bipush (-3), 2) := by decide +kernel
theorem d_Mo_individual_28 : decode prog_7_method_29_code 28 = .ok (.ireturn, 1) := by decide +kernel
theorem d_Mo_individual_29 : decode prog_7_method_29_code 29 = .ok (.aload_n 0, 1) := by decide +kernel
theorem d_Mo_individual_30 : decode prog_7_method_29_code 30 = .ok (.getfield 32, 3) := by decide +kernel
theorem d_Mo_individual_33 : decode prog_7_method_29_code 33 = .ok (.aload_n 0, 1) := by decide +kernel
theorem d_Mo_individual_34 : decode prog_7_method_29_code 34 = .ok (.getfield 129, 3) := by decide +kernel
theorem d_Mo_individual_37 : decode prog_7_method_29_code 37 = .ok (.iload_n 1, 1) := by decide +kernel
theorem d_Mo_individual_38 : decode prog_7_method_29_code 38 = .ok (.iastore, 1) := by decide +kernel
theorem d_Mo_individual_39 : decode prog_7_method_29_code 39 = .ok (.aload_n 0, 1) := by decide +kernel
theorem d_Mo_individual_40 : decode prog_7_method_29_code 40 = .ok (.getfield 35, 3) := by decide +kernel
theorem d_Mo_individual_43 : decode prog_7_method_29_code 43 = .ok (.aload_n 0, 1) := by decide +kernel
theorem d_Mo_individual_44 : decode prog_7_method_29_code 44 = .ok (.getfield 129, 3) := by decide +kernel
theorem d_Mo_individual_47 : decode prog_7_method_29_code 47 = .ok (.iload_n 2, 1) := by decide +kernel
theorem d_Mo_individual_48 : decode prog_7_method_29_code 48 = .ok (.iastore, 1) := by decide +kernel
theorem d_Mo_individual_49 : decode prog_7_method_29_code 49 = .ok (.aload_n 0, 1) := by decide +kernel
theorem d_Mo_individual_50 : decode prog_7_method_29_code 50 = .ok (.dup, 1) := by decide +kernel
theorem d_Mo_individual_51 : decode prog_7_method_29_code 51 = .ok (.getfield 129, 3) := by decide +kernel
theorem d_Mo_individual_54 : decode prog_7_method_29_code 54 = .ok (.iconst 1, 1) := by decide +kernel
theorem d_Mo_individual_55 : decode prog_7_method_29_code 55 = .ok (.iadd, 1) := by decide +kernel
theorem d_Mo_individual_56 : decode prog_7_method_29_code 56 = .ok (.putfield 129, 3) := by decide +kernel
theorem d_Mo_individual_59 : decode prog_7_method_29_code 59 = .ok (.aload_n 0, 1) := by decide +kernel
theorem d_Mo_individual_60 : decode prog_7_method_29_code 60 = .ok (.getfield 129, 3) := by decide +kernel
theorem d_Mo_individual_63 : decode prog_7_method_29_code 63 = .ok (.ireturn, 1) := by decide +kernel
theorem d_Mo_has_0 : decode prog_7_method_30_code 0 = .ok (.iload_n 1, 1) := by decide +kernel
theorem d_Mo_has_1 : decode prog_7_method_30_code 1 = .ok (.invokestatic 126, 3) := by decide +kernel
theorem d_Mo_has_4 : decode prog_7_method_30_code 4 = .ok (.ifCond .eq 17, 3) := by decide +kernel
theorem d_Mo_has_7 : decode prog_7_method_30_code 7 = .ok (.iload_n 2, 1) := by decide +kernel
theorem d_Mo_has_8 : decode prog_7_method_30_code 8 = .ok (.invokestatic 88, 3) := by decide +kernel
theorem d_Mo_has_11 : decode prog_7_method_30_code 11 = .ok (.ifCond .eq 10, 3) := by decide +kernel
theorem d_Mo_has_14 : decode prog_7_method_30_code 14 = .ok (.iload_n 3, 1) := by decide +kernel
theorem d_Mo_has_15 : decode prog_7_method_30_code 15 = .ok (.invokestatic 126, 3) := by decide +kernel
theorem d_Mo_has_18 : decode prog_7_method_30_code 18 = .ok (.ifCond .ne 5, 3) := by decide +kernel
theorem d_Mo_has_21 : decode prog_7_method_30_code 21 = .ok (.iconst (-1), 1) := by decide +kernel
theorem d_Mo_has_22 : decode prog_7_method_30_code 22 = .ok (.ireturn, 1) := by decide +kernel
theorem d_Mo_has_23 : decode prog_7_method_30_code 23 = .ok (.aload_n 0, 1) := by decide +kernel
theorem d_Mo_has_24 : decode prog_7_method_30_code 24 = .ok (.getfield 132, 3) := by decide +kernel
theorem d_Mo_has_27 : decode prog_7_method_30_code 27 = .ok (.bipush 40, 2) := by decide +kernel
theorem d_Mo_has_29 : decode prog_7_method_30_code 29 = .ok (.if_icmp .ne 6, 3) := by decide +kernel
theorem d_Mo_has_32 : decode prog_7_method_30_code 32 = .ok (.bipush (-3), 2) := by decide +kernel
theorem d_Mo_has_34 : decode prog_7_method_30_code 34 = .ok (.ireturn, 1) := by decide +kernel
theorem d_Mo_has_35 : decode prog_7_method_30_code 35 = .ok (.aload_n 0, 1) := by decide +kernel
theorem d_Mo_has_36 : decode prog_7_method_30_code 36 = .ok (.getfield 38, 3) := by decide +kernel
theorem d_Mo_has_39 : decode prog_7_method_30_code 39 = .ok (.aload_n 0, 1) := by decide +kernel
theorem d_Mo_has_40 : decode prog_7_method_30_code 40 = .ok (.getfield 132, 3) := by decide +kernel
theorem d_Mo_has_43 : decode prog_7_method_30_code 43 = .ok (.iload_n 1, 1) := by decide +kernel
theorem d_Mo_has_44 : decode prog_7_method_30_code 44 = .ok (.iastore, 1) := by decide +kernel
theorem d_Mo_has_45 : decode prog_7_method_30_code 45 = .ok (.aload_n 0, 1) := by decide +kernel
theorem d_Mo_has_46 : decode prog_7_method_30_code 46 = .ok (.getfield 41, 3) := by decide +kernel
theorem d_Mo_has_49 : decode prog_7_method_30_code 49 = .ok (.aload_n 0, 1) := by decide +kernel
theorem d_Mo_has_50 : decode prog_7_method_30_code 50 = .ok (.getfield 132, 3) := by decide +kernel
theorem d_Mo_has_53 : decode prog_7_method_30_code 53 = .ok (.iload_n 2, 1) := by decide +kernel
theorem d_Mo_has_54 : decode prog_7_method_30_code 54 = .ok (.iastore, 1) := by decide +kernel
theorem d_Mo_has_55 : decode prog_7_method_30_code 55 = .ok (.aload_n 0, 1) := by decide +kernel
theorem d_Mo_has_56 : decode prog_7_method_30_code 56 = .ok (.getfield 44, 3) := by decide +kernel
theorem d_Mo_has_59 : decode prog_7_method_30_code 59 = .ok (.aload_n 0, 1) := by decide +kernel
theorem d_Mo_has_60 : decode prog_7_method_30_code 60 = .ok (.getfield 132, 3) := by decide +kernel
theorem d_Mo_has_63 : decode prog_7_method_30_code 63 = .ok (.iload_n 3, 1) := by decide +kernel
theorem d_Mo_has_64 : decode prog_7_method_30_code 64 = .ok (.iastore, 1) := by decide +kernel
theorem d_Mo_has_65 : decode prog_7_method_30_code 65 = .ok (.aload_n 0, 1) := by decide +kernel
theorem d_Mo_has_66 : decode prog_7_method_30_code 66 = .ok (.dup, 1) := by decide +kernel
theorem d_Mo_has_67 : decode prog_7_method_30_code 67 = .ok (.getfield 132, 3) := by decide +kernel
theorem d_Mo_has_70 : decode prog_7_method_30_code 70 = .ok (.iconst 1, 1) := by decide +kernel
theorem d_Mo_has_71 : decode prog_7_method_30_code 71 = .ok (.iadd, 1) := by decide +kernel
theorem d_Mo_has_72 : decode prog_7_method_30_code 72 = .ok (.putfield 132, 3) := by decide +kernel
theorem d_Mo_has_75 : decode prog_7_method_30_code 75 = .ok (.aload_n 0, 1) := by decide +kernel
theorem d_Mo_has_76 : decode prog_7_method_30_code 76 = .ok (.getfield 132, 3) := by decide +kernel
theorem d_Mo_has_79 : decode prog_7_method_30_code 79 = .ok (.ireturn, 1) := by decide +kernel
theorem d_Mo_forget_0 : decode prog_7_method_31_code 0 = .ok (.aload_n 0, 1) := by decide +kernel
theorem d_Mo_forget_1 : decode prog_7_method_31_code 1 = .ok (.getfield 129, 3) := by decide +kernel
theorem d_Mo_forget_4 : decode prog_7_method_31_code 4 = .ok (.aload_n 0, 1) := by decide +kernel
theorem d_Mo_forget_5 : decode prog_7_method_31_code 5 = .ok (.getfield 132, 3) := by decide +kernel
theorem d_Mo_forget_8 : decode prog_7_method_31_code 8 = .ok (.iadd, 1) := by decide +kernel
theorem d_Mo_forget_9 : decode prog_7_method_31_code 9 = .ok (.istore_n 1, 1) := by decide +kernel
theorem d_Mo_forget_10 : decode prog_7_method_31_code 10 = .ok (.aload_n 0, 1) := by decide +kernel
theorem d_Mo_forget_11 : decode prog_7_method_31_code 11 = .ok (.iconst 0, 1) := by decide +kernel
theorem d_Mo_forget_12 : decode prog_7_method_31_code 12 = .ok (.putfield 129, 3) := by decide +kernel
theorem d_Mo_forget_15 : decode prog_7_method_31_code 15 = .ok (.aload_n 0, 1) := by decide +kernel
theorem d_Mo_forget_16 : decode prog_7_method_31_code 16 = .ok (.iconst 0, 1) := by decide +kernel
theorem d_Mo_forget_17 : decode prog_7_method_31_code 17 = .ok (.putfield 132, 3) := by decide +kernel
theorem d_Mo_forget_20 : decode prog_7_method_31_code 20 = .ok (.iload_n 1, 1) := by decide +kernel
theorem d_Mo_forget_21 : decode prog_7_method_31_code 21 = .ok (.ireturn, 1) := by decide +kernel
noncomputable def bk_Mo_work_0 : List Int32 → List Int64 → tq_S → Option tq_C
  | [], [], σ => if (σ.2.2 18) = 0 then some (10, [0], [], σ) else some (tq_rt, [], [], σ)
  | _, _, _ => none
noncomputable def bk_Mo_work_10 : List Int32 → List Int64 → tq_S → Option tq_C
  | [x1], [], σ => if 16 ≤ x1 then some (53, [0], [], σ) else tq_gd x1 16 (if ¬ (ia σ 23 x1) = 0 then tq_gd x1 16 (tq_lj (iput σ 32 x1.toNatClampNeg (jz 1)) (fun σ6 => tq_lj (x1 + 1) (fun v7 => some (10, [v7], [], σ6)))) else if ¬ (x1 / 4) = (jrem x1 4) then tq_gd x1 16 (tq_lj (iput σ 32 x1.toNatClampNeg (jz 0)) (fun σ12 => tq_lj (x1 + 1) (fun v13 => some (10, [v13], [], σ12)))) else tq_gd x1 16 (tq_lj (iput σ 32 x1.toNatClampNeg (jz 1)) (fun σ15 => tq_lj (x1 + 1) (fun v16 => some (10, [v16], [], σ15)))))
  | _, _, _ => none
noncomputable def bk_Mo_work_53 : List Int32 → List Int64 → tq_S → Option tq_C
  | [x1], [], σ => if 4 ≤ x1 then some (135, [0], [], σ) else some (60, [x1, 0], [], σ)
  | _, _, _ => none
noncomputable def bk_Mo_work_60 : List Int32 → List Int64 → tq_S → Option tq_C
  | [x1, x2], [], σ => if 64 ≤ x2 then tq_lj (x1 + 1) (fun v19 => some (53, [v19], [], σ)) else tq_gd ((4 * (x2 / 16)) + (jrem (x2 / 4) 4)) 16 (if (ia σ 32 ((4 * (x2 / 16)) + (jrem (x2 / 4) 4))) = 0 then tq_lj (x2 + 1) (fun v25 => some (60, [x1, v25], [], σ)) else tq_gd ((4 * (jrem (x2 / 4) 4)) + (jrem x2 4)) 16 (if (ia σ 32 ((4 * (jrem (x2 / 4) 4)) + (jrem x2 4))) = 0 then tq_lj (x2 + 1) (fun v31 => some (60, [x1, v31], [], σ)) else tq_gd ((4 * (x2 / 16)) + (jrem x2 4)) 16 (tq_lj (iput σ 32 ((4 * (x2 / 16)) + (jrem x2 4)).toNatClampNeg (jz 1)) (fun σ35 => tq_lj (x2 + 1) (fun v36 => some (60, [x1, v36], [], σ35))))))
  | _, _, _ => none
noncomputable def bk_Mo_work_135 : List Int32 → List Int64 → tq_S → Option tq_C
  | [x1], [], σ => tq_ob (tq_fI st_Mo_size (0, [], [], σ)) (fun r38 σ39 => if r38 ≤ x1 then tq_lj (fput σ39 18 1) (fun σ41 => tq_lj (fput σ41 19 0) (fun σ42 => some (321, [], [], σ42))) else some (145, [x1, 0], [], σ39))
  | _, _, _ => none
noncomputable def bk_Mo_work_145 : List Int32 → List Int64 → tq_S → Option tq_C
  | [x1, x2], [], σ => if (σ.2.2 13) ≤ x2 then tq_gd x1 1024 (tq_lj (iput σ 31 x1.toNatClampNeg 0) (fun σ45 => some (185, [x1, 0], [], σ45))) else tq_ob (tq_fI st_Mo_weigh (0, [x1, x2], [], σ)) (fun r47 σ48 => tq_gd ((80 * x1) + x2) 81920 (tq_lj (iput σ48 29 ((80 * x1) + x2).toNatClampNeg (jz r47)) (fun σ50 => tq_lj (x2 + 1) (fun v51 => some (145, [x1, v51], [], σ50)))))
  | _, _, _ => none
noncomputable def bk_Mo_work_185 : List Int32 → List Int64 → tq_S → Option tq_C
  | [x1, x2], [], σ => if (σ.2.2 15) ≤ x2 then tq_gd x1 1024 (tq_lj (iput σ 30 x1.toNatClampNeg 0) (fun σ54 => some (244, [x1, 0], [], σ54))) else tq_gd x2 30 (tq_ob (tq_fI st_Mo_isHeld (0, [x1, (ia σ 21 x2)], [], σ)) (fun r57 σ58 => if r57 = 0 then tq_lj (x2 + 1) (fun v60 => some (185, [x1, v60], [], σ58)) else tq_gd x2 30 (tq_ob (tq_fI st_Mo_isHeld (0, [x1, (ia σ58 22 x2)], [], σ58)) (fun r63 σ64 => if ¬ r63 = 0 then tq_lj (x2 + 1) (fun v66 => some (185, [x1, v66], [], σ64)) else tq_gd x1 1024 (tq_lj (iput σ64 31 x1.toNatClampNeg (-2)) (fun σ68 => tq_lj (x2 + 1) (fun v69 => some (185, [x1, v69], [], σ68))))))))
  | _, _, _ => none
noncomputable def bk_Mo_work_244 : List Int32 → List Int64 → tq_S → Option tq_C
  | [x1, x2], [], σ => if (σ.2.2 14) ≤ x2 then tq_lj (x1 + 1) (fun v71 => some (135, [v71], [], σ)) else tq_gd x2 10 (tq_gd (ia σ 20 x2) 80 (if ¬ (ia σ 17 (ia σ 20 x2)) = 6 then tq_lj (x2 + 1) (fun v75 => some (244, [x1, v75], [], σ)) else tq_gd x2 10 (tq_gd (ia σ 20 x2) 80 (tq_ob (tq_fI st_Mo_isHeld (0, [x1, (ia σ 19 (ia σ 20 x2))], [], σ)) (fun r79 σ80 => if r79 = 0 then tq_lj (x2 + 1) (fun v82 => some (244, [x1, v82], [], σ80)) else tq_gd x1 1024 (tq_gd x1 1024 (tq_lj (iput σ80 30 x1.toNatClampNeg ((ia σ80 30 x1) ||| (1 <<< (x2 &&& 31)))) (fun σ85 => tq_lj (x2 + 1) (fun v86 => some (244, [x1, v86], [], σ85))))))))))
  | _, _, _ => none
noncomputable def bk_Mo_work_321 : List Int32 → List Int64 → tq_S → Option tq_C
  | [], [], σ => tq_ob (tq_fI st_Mo_turn (0, [((σ.2.2 19) + 1)], [], σ)) (fun r88 σ89 => if r88 = 0 then some (tq_rt, [], [], σ89) else tq_lj (fput σ89 19 ((σ89.2.2 19) + 1)) (fun σ91 => some (321, [], [], σ91)))
  | _, _, _ => none
noncomputable def st_Mo_work (c : tq_C) : Option tq_C := if c.1 = 0 then bk_Mo_work_0 c.2.1 c.2.2.1 c.2.2.2 else if c.1 = 10 then bk_Mo_work_10 c.2.1 c.2.2.1 c.2.2.2 else if c.1 = 53 then bk_Mo_work_53 c.2.1 c.2.2.1 c.2.2.2 else if c.1 = 60 then bk_Mo_work_60 c.2.1 c.2.2.1 c.2.2.2 else if c.1 = 135 then bk_Mo_work_135 c.2.1 c.2.2.1 c.2.2.2 else if c.1 = 145 then bk_Mo_work_145 c.2.1 c.2.2.1 c.2.2.2 else if c.1 = 185 then bk_Mo_work_185 c.2.1 c.2.2.1 c.2.2.2 else if c.1 = 244 then bk_Mo_work_244 c.2.1 c.2.2.1 c.2.2.2 else if c.1 = 321 then bk_Mo_work_321 c.2.1 c.2.2.1 c.2.2.2 else none
set_option maxHeartbeats 40000000 in
set_option maxRecDepth 100000 in
theorem c_Mo_work (l : Launch) (dC : Nat → ClassId) (dI : Nat → Nat → Nat) (cI cL cZ : ClassId) (ad : Nat → Nat) (tt : Nat) (sz : Nat) (σ : tq_S) (σ' : tq_S) (hf : tq_fV st_Mo_work (0, [], [], σ) = some ((), σ')) : Met l y_Mo_work w_Mo_work ({ frames := 3, cells := 0, slots := 0, locals := 70 } : Room) (va_Pc [.ref (ad 5)] (tq_B dC dI cI cL cZ tt (wo cI cL cZ ad σ) sz)) (va_Qv (fun (u : tq_S) => u = σ') (tq_E dC dI cI cL cZ (wo cI cL cZ ad) (va_A (wo cI cL cZ ad σ) sz)) (va_A (wo cI cL cZ ad σ) sz)) 0 0 (va_A (wo cI cL cZ ad σ) sz) := by
  obtain ⟨n0, h0⟩ := tq_fV_to hf
  refine Met.ofW (cc := prog_7_method_19_code) (maxL := 3) (ret := none) (by decide) rfl ?_
  intro p e s m args below meth c s₁ B hml hv
  obtain ⟨rfl, hsz, hP, hK, hD0, hZ, hN⟩ := hv
  have hx := B.exec
  have hb := B.bytes
  have hr := B.returns
  have hts : ∀ w ∈ tq_T, w.before _ s = true := fun w h => atoms_spec (ws := w_Mo_work) B.pre w (List.mem_cons_of_mem _ h)
  have hown : s.vm.findClass "TableauNodesModel" = some m.cls := findClass_of_methodNamed B.named
  have hlocks := B.notSynchronized
  subst hsz
  have hD := hD0.self (sz := s.heap.size)
  have hS : va_S (va_A (wo cI cL cZ ad σ) s.heap.size) s.heap s.heap [] := va_S.rf
  have hA : ∀ q : Nat, s.heap.size ≤ q → va_A (wo cI cL cZ ad σ) s.heap.size q := fun q h => Or.inr h
  generalize va_A (wo cI cL cZ ad σ) s.heap.size = A at hD hS hA hZ ⊢
  have hl := lv_entry ([.ref (ad 5)]) (n := 3) (Nat.le_of_ble_eq_true rfl)
  rw [lg_entry_eq]
  generalize (lg_sl ([.ref (ad 5)]) ++ List.replicate (3 - (lg_sl ([.ref (ad 5)])).length) Slot.unset).toArray = ls at hl ⊢
  have hl : lv_has ls 3 [(0, .ref (ad 5))] := hl
  have key : ∀ n : Nat, (∀ {σ : tq_S} {H : Heap} {locs : List Loc} {ls : Array Slot}, va_P (dC, dI) tq_cl (wo cI cL cZ ad σ) H → va_D A (wo cI cL cZ ad σ) → va_S A s.heap H locs → lv_has ls 3 [(0, .ref (ad 5))] → tq_go st_Mo_work n (0, [], [], σ) = some (tq_rt, [], [], σ') → W p l e (headSpec w_Mo_work ({ frames := 3, cells := 0, slots := 0, locals := 70 } : Room)).room s m ([.ref (ad 5)] : List Value).toArray below meth c H locs 0 0 (MQ below (va_Qv (fun (u : tq_S) => u = σ') (tq_E dC dI cI cL cZ (wo cI cL cZ ad) A) A) ([.ref (ad 5)] : List Value).toArray s 0 0 A) (F0 m 0 ls [])) ∧ (∀ {x1 : Int32} {σ : tq_S} {H : Heap} {locs : List Loc} {ls : Array Slot}, va_P (dC, dI) tq_cl (wo cI cL cZ ad σ) H → va_D A (wo cI cL cZ ad σ) → va_S A s.heap H locs → lv_has ls 3 [(0, .ref (ad 5)), (1, .int x1)] → tq_go st_Mo_work n (10, [x1], [], σ) = some (tq_rt, [], [], σ') → W p l e (headSpec w_Mo_work ({ frames := 3, cells := 0, slots := 0, locals := 70 } : Room)).room s m ([.ref (ad 5)] : List Value).toArray below meth c H locs 0 0 (MQ below (va_Qv (fun (u : tq_S) => u = σ') (tq_E dC dI cI cL cZ (wo cI cL cZ ad) A) A) ([.ref (ad 5)] : List Value).toArray s 0 0 A) (F0 m 10 ls [])) ∧ (∀ {x1 : Int32} {σ : tq_S} {H : Heap} {locs : List Loc} {ls : Array Slot}, va_P (dC, dI) tq_cl (wo cI cL cZ ad σ) H → va_D A (wo cI cL cZ ad σ) → va_S A s.heap H locs → lv_has ls 3 [(0, .ref (ad 5)), (1, .int x1)] → tq_go st_Mo_work n (53, [x1], [], σ) = some (tq_rt, [], [], σ') → W p l e (headSpec w_Mo_work ({ frames := 3, cells := 0, slots := 0, locals := 70 } : Room)).room s m ([.ref (ad 5)] : List Value).toArray below meth c H locs 0 0 (MQ below (va_Qv (fun (u : tq_S) => u = σ') (tq_E dC dI cI cL cZ (wo cI cL cZ ad) A) A) ([.ref (ad 5)] : List Value).toArray s 0 0 A) (F0 m 53 ls [])) ∧ (∀ {x1 x2 : Int32} {σ : tq_S} {H : Heap} {locs : List Loc} {ls : Array Slot}, va_P (dC, dI) tq_cl (wo cI cL cZ ad σ) H → va_D A (wo cI cL cZ ad σ) → va_S A s.heap H locs → lv_has ls 3 [(0, .ref (ad 5)), (1, .int x1), (2, .int x2)] → tq_go st_Mo_work n (60, [x1, x2], [], σ) = some (tq_rt, [], [], σ') → W p l e (headSpec w_Mo_work ({ frames := 3, cells := 0, slots := 0, locals := 70 } : Room)).room s m ([.ref (ad 5)] : List Value).toArray below meth c H locs 0 0 (MQ below (va_Qv (fun (u : tq_S) => u = σ') (tq_E dC dI cI cL cZ (wo cI cL cZ ad) A) A) ([.ref (ad 5)] : List Value).toArray s 0 0 A) (F0 m 60 ls [])) ∧ (∀ {x1 : Int32} {σ : tq_S} {H : Heap} {locs : List Loc} {ls : Array Slot}, va_P (dC, dI) tq_cl (wo cI cL cZ ad σ) H → va_D A (wo cI cL cZ ad σ) → va_S A s.heap H locs → lv_has ls 3 [(0, .ref (ad 5)), (1, .int x1)] → tq_go st_Mo_work n (135, [x1], [], σ) = some (tq_rt, [], [], σ') → W p l e (headSpec w_Mo_work ({ frames := 3, cells := 0, slots := 0, locals := 70 } : Room)).room s m ([.ref (ad 5)] : List Value).toArray below meth c H locs 0 0 (MQ below (va_Qv (fun (u : tq_S) => u = σ') (tq_E dC dI cI cL cZ (wo cI cL cZ ad) A) A) ([.ref (ad 5)] : List Value).toArray s 0 0 A) (F0 m 135 ls [])) ∧ (∀ {x1 x2 : Int32} {σ : tq_S} {H : Heap} {locs : List Loc} {ls : Array Slot}, va_P (dC, dI) tq_cl (wo cI cL cZ ad σ) H → va_D A (wo cI cL cZ ad σ) → va_S A s.heap H locs → lv_has ls 3 [(0, .ref (ad 5)), (1, .int x1), (2, .int x2)] → tq_go st_Mo_work n (145, [x1, x2], [], σ) = some (tq_rt, [], [], σ') → W p l e (headSpec w_Mo_work ({ frames := 3, cells := 0, slots := 0, locals := 70 } : Room)).room s m ([.ref (ad 5)] : List Value).toArray below meth c H locs 0 0 (MQ below (va_Qv (fun (u : tq_S) => u = σ') (tq_E dC dI cI cL cZ (wo cI cL cZ ad) A) A) ([.ref (ad 5)] : List Value).toArray s 0 0 A) (F0 m 145 ls [])) ∧ (∀ {x1 x2 : Int32} {σ : tq_S} {H : Heap} {locs : List Loc} {ls : Array Slot}, va_P (dC, dI) tq_cl (wo cI cL cZ ad σ) H → va_D A (wo cI cL cZ ad σ) → va_S A s.heap H locs → lv_has ls 3 [(0, .ref (ad 5)), (1, .int x1), (2, .int x2)] → tq_go st_Mo_work n (185, [x1, x2], [], σ) = some (tq_rt, [], [], σ') → W p l e (headSpec w_Mo_work ({ frames := 3, cells := 0, slots := 0, locals := 70 } : Room)).room s m ([.ref (ad 5)] : List Value).toArray below meth c H locs 0 0 (MQ below (va_Qv (fun (u : tq_S) => u = σ') (tq_E dC dI cI cL cZ (wo cI cL cZ ad) A) A) ([.ref (ad 5)] : List Value).toArray s 0 0 A) (F0 m 185 ls [])) ∧ (∀ {x1 x2 : Int32} {σ : tq_S} {H : Heap} {locs : List Loc} {ls : Array Slot}, va_P (dC, dI) tq_cl (wo cI cL cZ ad σ) H → va_D A (wo cI cL cZ ad σ) → va_S A s.heap H locs → lv_has ls 3 [(0, .ref (ad 5)), (1, .int x1), (2, .int x2)] → tq_go st_Mo_work n (244, [x1, x2], [], σ) = some (tq_rt, [], [], σ') → W p l e (headSpec w_Mo_work ({ frames := 3, cells := 0, slots := 0, locals := 70 } : Room)).room s m ([.ref (ad 5)] : List Value).toArray below meth c H locs 0 0 (MQ below (va_Qv (fun (u : tq_S) => u = σ') (tq_E dC dI cI cL cZ (wo cI cL cZ ad) A) A) ([.ref (ad 5)] : List Value).toArray s 0 0 A) (F0 m 244 ls [])) ∧ (∀ {σ : tq_S} {H : Heap} {locs : List Loc} {ls : Array Slot}, va_P (dC, dI) tq_cl (wo cI cL cZ ad σ) H → va_D A (wo cI cL cZ ad σ) → va_S A s.heap H locs → lv_has ls 3 [(0, .ref (ad 5))] → tq_go st_Mo_work n (321, [], [], σ) = some (tq_rt, [], [], σ') → W p l e (headSpec w_Mo_work ({ frames := 3, cells := 0, slots := 0, locals := 70 } : Room)).room s m ([.ref (ad 5)] : List Value).toArray below meth c H locs 0 0 (MQ below (va_Qv (fun (u : tq_S) => u = σ') (tq_E dC dI cI cL cZ (wo cI cL cZ ad) A) A) ([.ref (ad 5)] : List Value).toArray s 0 0 A) (F0 m 321 ls [])) := by
    intro n
    induction n with
    | zero => exact ⟨(fun _ _ _ _ h => by cases h), (fun _ _ _ _ h => by cases h), (fun _ _ _ _ h => by cases h), (fun _ _ _ _ h => by cases h), (fun _ _ _ _ h => by cases h), (fun _ _ _ _ h => by cases h), (fun _ _ _ _ h => by cases h), (fun _ _ _ _ h => by cases h), (fun _ _ _ _ h => by cases h)⟩
    | succ n ih =>
      refine ⟨?_, ?_, ?_, ?_, ?_, ?_, ?_, ?_, ?_⟩
      · intro  σ H locs ls hP hD hS hl h9
        obtain ⟨q9, hg, hn⟩ := tq_go_s h9 (show ¬ (0 : Nat) = tq_rt by decide)
        replace hg : bk_Mo_work_0 [] [] σ = some q9 := hg
        unfold bk_Mo_work_0 at hg
        refine lv_aload_n hx hb d_Mo_work_0 rfl (lv_at hl 0 rfl) ?_
        refine va_get (D := (dC, dI)) (ci := 5) (v := .int (σ.2.2 18)) (C := "TableauNodesModel") (T := F_Mo) (N := 25) hx hb hts in_Mo hown hK hP 5 rfl rfl 17 (by decide) (hts _ tw_616) (fun _ h9 => h9) rfl d_Mo_work_1 ?_
        refine lv_if_eq (tgt := 8) hx hb d_Mo_work_4 (by decide) (fun c1 => ?_) (fun c1 => ?_)
        · replace hg := tq_if_t c1 hg
          refine lv_iconst (v := 0) hx hb d_Mo_work_8 (by decide) ?_
          refine lv_istore_n (lv' := [(1, .int 0), (0, .ref (ad 5))]) hx hb d_Mo_work_9 rfl hl (by decide) rfl (fun ls hl => ?_)
          exact ih.2.1 hP hD hS (lv_sub hl [1, 0] rfl) (tq_gi hg hn)
        · replace hg := tq_if_f c1 hg
          exact W.vret hx hb hr (fun t ht hW => ⟨⟨σ, rfl, tq_grV hg hn, by rw [ht]; exact hP, va_K.moved hW.alike hK, hD⟩, hS.F ht⟩) hS.2.2 d_Mo_work_7
      · intro x1 σ H locs ls hP hD hS hl h9
        obtain ⟨q9, hg, hn⟩ := tq_go_s h9 (show ¬ (10 : Nat) = tq_rt by decide)
        replace hg : bk_Mo_work_10 [x1] [] σ = some q9 := hg
        unfold bk_Mo_work_10 at hg
        refine lv_iload_n hx hb d_Mo_work_10 rfl (lv_at hl 1 rfl) ?_
        refine lv_bipush (v := 16) hx hb d_Mo_work_11 (by decide) ?_
        refine lv_icmp_ge (tgt := 51) hx hb d_Mo_work_13 (by decide) (fun c2 => ?_) (fun c2 => ?_)
        · replace hg := tq_if_t c2 hg
          refine lv_iconst (v := 0) hx hb d_Mo_work_51 (by decide) ?_
          refine lv_istore_n (lv' := [(1, .int 0), (0, .ref (ad 5))]) hx hb d_Mo_work_52 rfl hl (by decide) rfl (fun ls hl => ?_)
          exact ih.2.2.1 hP hD hS (lv_sub hl [1, 0] rfl) (tq_gi hg hn)
        · replace hg := tq_if_f c2 hg
          refine lv_aload_n hx hb d_Mo_work_16 rfl (lv_at hl 0 rfl) ?_
          refine va_get (D := (dC, dI)) (ci := 5) (v := .ref (ad 45)) (C := "TableauNodesModel") (T := F_Mo) (N := 25) hx hb hts in_Mo hown hK hP 5 rfl rfl 21 (by decide) (hts _ tw_620) (fun _ h9 => h9) rfl d_Mo_work_17 ?_
          refine lv_iload_n hx hb d_Mo_work_20 rfl (lv_at hl 1 rfl) ?_
          refine lv_aload_n hx hb d_Mo_work_21 rfl (lv_at hl 0 rfl) ?_
          refine va_get (D := (dC, dI)) (ci := 5) (v := .ref (ad 36)) (C := "TableauNodesModel") (T := F_Mo) (N := 25) hx hb hts in_Mo hown hK hP 5 rfl rfl 9 (by decide) (hts _ tw_608) (fun _ h9 => h9) rfl d_Mo_work_22 ?_
          refine lv_iload_n hx hb d_Mo_work_25 rfl (lv_at hl 1 rfl) ?_
          obtain ⟨g3, hg⟩ := tq_gd_s hg
          refine va_zald hx hb hK hP 36 2 rfl rfl g3 d_Mo_work_26 ?_
          refine lv_if_ne (tgt := 39) hx hb d_Mo_work_27 (by decide) (fun c4 => ?_) (fun c4 => ?_)
          · replace hg := tq_if_t c4 hg
            refine lv_iconst (v := 1) hx hb d_Mo_work_39 (by decide) ?_
            refine lv_goto (tgt := 44) hx hb d_Mo_work_40 (by decide) ?_
            obtain ⟨g5, hg⟩ := tq_gd_s hg
            refine va_zast hx hb hK hP hD hS 45 2 rfl rfl g5 d_Mo_work_44 (fun H locs hP hD hS => ?_)
            obtain ⟨σ6, eσ6, hg⟩ := tq_lj_s hg
            replace hP : va_P (dC, dI) tq_cl (wo cI cL cZ ad σ6) H := by rw [eσ6, ← ws_i32]; exact hP
            replace hD : va_D A (wo cI cL cZ ad σ6) := by rw [eσ6, ← ws_i32]; exact hD
            obtain ⟨v7, ev7, hg⟩ := tq_lj_s hg
            refine lv_iinc (v := v7) (lv' := [(1, .int v7), (0, .ref (ad 5))]) hx hb d_Mo_work_45 hl (k := 1) rfl (by rw [ev7]; rfl) (by decide) rfl (fun ls hl => ?_)
            refine lv_goto (tgt := 10) hx hb d_Mo_work_48 (by decide) ?_
            exact ih.2.1 hP hD hS (lv_sub hl [1, 0] rfl) (tq_gi hg hn)
          · replace hg := tq_if_n c4 hg
            refine lv_iload_n hx hb d_Mo_work_30 rfl (lv_at hl 1 rfl) ?_
            refine lv_iconst (v := 4) hx hb d_Mo_work_31 (by decide) ?_
            refine lv_idiv hx hb d_Mo_work_32 (by decide) ?_
            refine lv_iload_n hx hb d_Mo_work_33 rfl (lv_at hl 1 rfl) ?_
            refine lv_iconst (v := 4) hx hb d_Mo_work_34 (by decide) ?_
            refine lv_irem hx hb d_Mo_work_35 (by decide) ?_
            refine lv_icmp_ne (tgt := 43) hx hb d_Mo_work_36 (by decide) (fun c10 => ?_) (fun c10 => ?_)
            · replace hg := tq_if_t c10 hg
              refine lv_iconst (v := 0) hx hb d_Mo_work_43 (by decide) ?_
              obtain ⟨g11, hg⟩ := tq_gd_s hg
              refine va_zast hx hb hK hP hD hS 45 2 rfl rfl g11 d_Mo_work_44 (fun H locs hP hD hS => ?_)
              obtain ⟨σ12, eσ12, hg⟩ := tq_lj_s hg
              replace hP : va_P (dC, dI) tq_cl (wo cI cL cZ ad σ12) H := by rw [eσ12, ← ws_i32]; exact hP
              replace hD : va_D A (wo cI cL cZ ad σ12) := by rw [eσ12, ← ws_i32]; exact hD
              obtain ⟨v13, ev13, hg⟩ := tq_lj_s hg
              refine lv_iinc (v := v13) (lv' := [(1, .int v13), (0, .ref (ad 5))]) hx hb d_Mo_work_45 hl (k := 1) rfl (by rw [ev13]; rfl) (by decide) rfl (fun ls hl => ?_)
              refine lv_goto (tgt := 10) hx hb d_Mo_work_48 (by decide) ?_
              exact ih.2.1 hP hD hS (lv_sub hl [1, 0] rfl) (tq_gi hg hn)
            · replace hg := tq_if_n c10 hg
              refine lv_iconst (v := 1) hx hb d_Mo_work_39 (by decide) ?_
              refine lv_goto (tgt := 44) hx hb d_Mo_work_40 (by decide) ?_
              obtain ⟨g14, hg⟩ := tq_gd_s hg
              refine va_zast hx hb hK hP hD hS 45 2 rfl rfl g14 d_Mo_work_44 (fun H locs hP hD hS => ?_)
              obtain ⟨σ15, eσ15, hg⟩ := tq_lj_s hg
              replace hP : va_P (dC, dI) tq_cl (wo cI cL cZ ad σ15) H := by rw [eσ15, ← ws_i32]; exact hP
              replace hD : va_D A (wo cI cL cZ ad σ15) := by rw [eσ15, ← ws_i32]; exact hD
              obtain ⟨v16, ev16, hg⟩ := tq_lj_s hg
              refine lv_iinc (v := v16) (lv' := [(1, .int v16), (0, .ref (ad 5))]) hx hb d_Mo_work_45 hl (k := 1) rfl (by rw [ev16]; rfl) (by decide) rfl (fun ls hl => ?_)
              refine lv_goto (tgt := 10) hx hb d_Mo_work_48 (by decide) ?_
              exact ih.2.1 hP hD hS (lv_sub hl [1, 0] rfl) (tq_gi hg hn)
      · intro x1 σ H locs ls hP hD hS hl h9
        obtain ⟨q9, hg, hn⟩ := tq_go_s h9 (show ¬ (53 : Nat) = tq_rt by decide)
        replace hg : bk_Mo_work_53 [x1] [] σ = some q9 := hg
        unfold bk_Mo_work_53 at hg
        refine lv_iload_n hx hb d_Mo_work_53 rfl (lv_at hl 1 rfl) ?_
        refine lv_iconst (v := 4) hx hb d_Mo_work_54 (by decide) ?_
        refine lv_icmp_ge (tgt := 133) hx hb d_Mo_work_55 (by decide) (fun c17 => ?_) (fun c17 => ?_)
        · replace hg := tq_if_t c17 hg
          refine lv_iconst (v := 0) hx hb d_Mo_work_133 (by decide) ?_
          refine lv_istore_n (lv' := [(1, .int 0), (0, .ref (ad 5))]) hx hb d_Mo_work_134 rfl hl (by decide) rfl (fun ls hl => ?_)
          exact ih.2.2.2.2.1 hP hD hS (lv_sub hl [1, 0] rfl) (tq_gi hg hn)
        · replace hg := tq_if_f c17 hg
          refine lv_iconst (v := 0) hx hb d_Mo_work_58 (by decide) ?_
          refine lv_istore_n (lv' := [(2, .int 0), (0, .ref (ad 5)), (1, .int x1)]) hx hb d_Mo_work_59 rfl hl (by decide) rfl (fun ls hl => ?_)
          exact ih.2.2.2.1 hP hD hS (lv_sub hl [1, 2, 0] rfl) (tq_gi hg hn)
      · intro x1 x2 σ H locs ls hP hD hS hl h9
        obtain ⟨q9, hg, hn⟩ := tq_go_s h9 (show ¬ (60 : Nat) = tq_rt by decide)
        replace hg : bk_Mo_work_60 [x1, x2] [] σ = some q9 := hg
        unfold bk_Mo_work_60 at hg
        refine lv_iload_n hx hb d_Mo_work_60 rfl (lv_at hl 2 rfl) ?_
        refine lv_bipush (v := 64) hx hb d_Mo_work_61 (by decide) ?_
        refine lv_icmp_ge (tgt := 127) hx hb d_Mo_work_63 (by decide) (fun c18 => ?_) (fun c18 => ?_)
        · replace hg := tq_if_t c18 hg
          obtain ⟨v19, ev19, hg⟩ := tq_lj_s hg
          refine lv_iinc (v := v19) (lv' := [(1, .int v19), (0, .ref (ad 5)), (2, .int x2)]) hx hb d_Mo_work_127 hl (k := 1) rfl (by rw [ev19]; rfl) (by decide) rfl (fun ls hl => ?_)
          refine lv_goto (tgt := 53) hx hb d_Mo_work_130 (by decide) ?_
          exact ih.2.2.1 hP hD hS (lv_sub hl [1, 0] rfl) (tq_gi hg hn)
        · replace hg := tq_if_f c18 hg
          refine lv_aload_n hx hb d_Mo_work_66 rfl (lv_at hl 0 rfl) ?_
          refine va_get (D := (dC, dI)) (ci := 5) (v := .ref (ad 45)) (C := "TableauNodesModel") (T := F_Mo) (N := 25) hx hb hts in_Mo hown hK hP 5 rfl rfl 21 (by decide) (hts _ tw_620) (fun _ h9 => h9) rfl d_Mo_work_67 ?_
          refine lv_iconst (v := 4) hx hb d_Mo_work_70 (by decide) ?_
          refine lv_iload_n hx hb d_Mo_work_71 rfl (lv_at hl 2 rfl) ?_
          refine lv_bipush (v := 16) hx hb d_Mo_work_72 (by decide) ?_
          refine lv_idiv hx hb d_Mo_work_74 (by decide) ?_
          refine lv_imul hx hb d_Mo_work_75 ?_
          refine lv_iload_n hx hb d_Mo_work_76 rfl (lv_at hl 2 rfl) ?_
          refine lv_iconst (v := 4) hx hb d_Mo_work_77 (by decide) ?_
          refine lv_idiv hx hb d_Mo_work_78 (by decide) ?_
          refine lv_iconst (v := 4) hx hb d_Mo_work_79 (by decide) ?_
          refine lv_irem hx hb d_Mo_work_80 (by decide) ?_
          refine lv_iadd hx hb d_Mo_work_81 ?_
          obtain ⟨g23, hg⟩ := tq_gd_s hg
          refine va_zald hx hb hK hP 45 2 rfl rfl g23 d_Mo_work_82 ?_
          refine lv_if_eq (tgt := 121) hx hb d_Mo_work_83 (by decide) (fun c24 => ?_) (fun c24 => ?_)
          · replace hg := tq_if_t c24 hg
            obtain ⟨v25, ev25, hg⟩ := tq_lj_s hg
            refine lv_iinc (v := v25) (lv' := [(2, .int v25), (0, .ref (ad 5)), (1, .int x1)]) hx hb d_Mo_work_121 hl (k := 2) rfl (by rw [ev25]; rfl) (by decide) rfl (fun ls hl => ?_)
            refine lv_goto (tgt := 60) hx hb d_Mo_work_124 (by decide) ?_
            exact ih.2.2.2.1 hP hD hS (lv_sub hl [1, 2, 0] rfl) (tq_gi hg hn)
          · replace hg := tq_if_f c24 hg
            refine lv_aload_n hx hb d_Mo_work_86 rfl (lv_at hl 0 rfl) ?_
            refine va_get (D := (dC, dI)) (ci := 5) (v := .ref (ad 45)) (C := "TableauNodesModel") (T := F_Mo) (N := 25) hx hb hts in_Mo hown hK hP 5 rfl rfl 21 (by decide) (hts _ tw_620) (fun _ h9 => h9) rfl d_Mo_work_87 ?_
            refine lv_iconst (v := 4) hx hb d_Mo_work_90 (by decide) ?_
            refine lv_iload_n hx hb d_Mo_work_91 rfl (lv_at hl 2 rfl) ?_
            refine lv_iconst (v := 4) hx hb d_Mo_work_92 (by decide) ?_
            refine lv_idiv hx hb d_Mo_work_93 (by decide) ?_
            refine lv_iconst (v := 4) hx hb d_Mo_work_94 (by decide) ?_
            refine lv_irem hx hb d_Mo_work_95 (by decide) ?_
            refine lv_imul hx hb d_Mo_work_96 ?_
            refine lv_iload_n hx hb d_Mo_work_97 rfl (lv_at hl 2 rfl) ?_
            refine lv_iconst (v := 4) hx hb d_Mo_work_98 (by decide) ?_
            refine lv_irem hx hb d_Mo_work_99 (by decide) ?_
            refine lv_iadd hx hb d_Mo_work_100 ?_
            obtain ⟨g29, hg⟩ := tq_gd_s hg
            refine va_zald hx hb hK hP 45 2 rfl rfl g29 d_Mo_work_101 ?_
            refine lv_if_eq (tgt := 121) hx hb d_Mo_work_102 (by decide) (fun c30 => ?_) (fun c30 => ?_)
            · replace hg := tq_if_t c30 hg
              obtain ⟨v31, ev31, hg⟩ := tq_lj_s hg
              refine lv_iinc (v := v31) (lv' := [(2, .int v31), (0, .ref (ad 5)), (1, .int x1)]) hx hb d_Mo_work_121 hl (k := 2) rfl (by rw [ev31]; rfl) (by decide) rfl (fun ls hl => ?_)
              refine lv_goto (tgt := 60) hx hb d_Mo_work_124 (by decide) ?_
              exact ih.2.2.2.1 hP hD hS (lv_sub hl [1, 2, 0] rfl) (tq_gi hg hn)
            · replace hg := tq_if_f c30 hg
              refine lv_aload_n hx hb d_Mo_work_105 rfl (lv_at hl 0 rfl) ?_
              refine va_get (D := (dC, dI)) (ci := 5) (v := .ref (ad 45)) (C := "TableauNodesModel") (T := F_Mo) (N := 25) hx hb hts in_Mo hown hK hP 5 rfl rfl 21 (by decide) (hts _ tw_620) (fun _ h9 => h9) rfl d_Mo_work_106 ?_
              refine lv_iconst (v := 4) hx hb d_Mo_work_109 (by decide) ?_
              refine lv_iload_n hx hb d_Mo_work_110 rfl (lv_at hl 2 rfl) ?_
              refine lv_bipush (v := 16) hx hb d_Mo_work_111 (by decide) ?_
              refine lv_idiv hx hb d_Mo_work_113 (by decide) ?_
              refine lv_imul hx hb d_Mo_work_114 ?_
              refine lv_iload_n hx hb d_Mo_work_115 rfl (lv_at hl 2 rfl) ?_
              refine lv_iconst (v := 4) hx hb d_Mo_work_116 (by decide) ?_
              refine lv_irem hx hb d_Mo_work_117 (by decide) ?_
              refine lv_iadd hx hb d_Mo_work_118 ?_
              refine lv_iconst (v := 1) hx hb d_Mo_work_119 (by decide) ?_
              obtain ⟨g34, hg⟩ := tq_gd_s hg
              refine va_zast hx hb hK hP hD hS 45 2 rfl rfl g34 d_Mo_work_120 (fun H locs hP hD hS => ?_)
              obtain ⟨σ35, eσ35, hg⟩ := tq_lj_s hg
              replace hP : va_P (dC, dI) tq_cl (wo cI cL cZ ad σ35) H := by rw [eσ35, ← ws_i32]; exact hP
              replace hD : va_D A (wo cI cL cZ ad σ35) := by rw [eσ35, ← ws_i32]; exact hD
              obtain ⟨v36, ev36, hg⟩ := tq_lj_s hg
              refine lv_iinc (v := v36) (lv' := [(2, .int v36), (0, .ref (ad 5)), (1, .int x1)]) hx hb d_Mo_work_121 hl (k := 2) rfl (by rw [ev36]; rfl) (by decide) rfl (fun ls hl => ?_)
              refine lv_goto (tgt := 60) hx hb d_Mo_work_124 (by decide) ?_
              exact ih.2.2.2.1 hP hD hS (lv_sub hl [1, 2, 0] rfl) (tq_gi hg hn)
      · intro x1 σ H locs ls hP hD hS hl h9
        obtain ⟨q9, hg, hn⟩ := tq_go_s h9 (show ¬ (135 : Nat) = tq_rt by decide)
        replace hg : bk_Mo_work_135 [x1] [] σ = some q9 := hg
        unfold bk_Mo_work_135 at hg
        refine lv_iload_n hx hb d_Mo_work_135 rfl (lv_at hl 1 rfl) ?_
        refine lv_aload_n hx hb d_Mo_work_136 rfl (lv_at hl 0 rfl) ?_
        obtain ⟨r38, σ39, f37, hg⟩ := tq_ob_s hg
        refine tq_aI (va_runV (As := []) (rest := [.int x1]) ⟨hx, hb, hml, hown, hts⟩ (c_Mo_size l dC dI cI cL cZ ad tt H.size σ   r38 σ39 f37) (cwV 0 hts (tq_gV tw_731 tw_733 ts_36 tw_6 tw_734) rfl rfl rfl (by decide +kernel) ⟨Nat.le_of_ble_eq_true rfl, Nat.le_of_ble_eq_true rfl⟩) ⟨tq_bl, va_recv hK hP (ci := 5) (q0 := 5) rfl rfl, (tq_pr hP hK hD hS hA hZ hN)⟩ rfl rfl hl.1 rfl (lv_room (Nat.le_of_ble_eq_true rfl)) d_Mo_work_137 ⟨Nat.zero_le _, Nat.zero_le _⟩) hD hS hA (fun H locs hP hD hS => ?_)
        refine lv_icmp_ge (tgt := 311) hx hb d_Mo_work_140 (by decide) (fun c40 => ?_) (fun c40 => ?_)
        · replace hg := tq_if_t c40 hg
          refine lv_aload_n hx hb d_Mo_work_311 rfl (lv_at hl 0 rfl) ?_
          refine lv_iconst (v := 1) hx hb d_Mo_work_312 (by decide) ?_
          refine va_put (D := (dC, dI)) (ci := 5) (v := .int 1) (ty := .boolean) (C := "TableauNodesModel") (T := F_Mo) (N := 25) hx hb hts in_Mo ty_Mo tk_Mo nm_Mo hown hK hP hD hS 5 rfl rfl 17 (by decide) (hts _ tw_616) (fun _ h9 => h9) rfl (by decide +kernel) rfl rfl (Nat.le_of_ble_eq_true rfl) d_Mo_work_313 (fun H locs hP hD hS => ?_)
          obtain ⟨σ41, eσ41, hg⟩ := tq_lj_s hg
          replace hP : va_P (dC, dI) tq_cl (wo cI cL cZ ad σ41) H := by rw [eσ41, ← ws_f18]; exact hP
          replace hD : va_D A (wo cI cL cZ ad σ41) := by rw [eσ41, ← ws_f18]; exact hD
          refine lv_aload_n hx hb d_Mo_work_316 rfl (lv_at hl 0 rfl) ?_
          refine lv_iconst (v := 0) hx hb d_Mo_work_317 (by decide) ?_
          refine va_put (D := (dC, dI)) (ci := 5) (v := .int 0) (ty := .int) (C := "TableauNodesModel") (T := F_Mo) (N := 25) hx hb hts in_Mo ty_Mo tk_Mo nm_Mo hown hK hP hD hS 5 rfl rfl 22 (by decide) (hts _ tw_621) (fun _ h9 => h9) rfl (by decide +kernel) rfl rfl (Nat.le_of_ble_eq_true rfl) d_Mo_work_318 (fun H locs hP hD hS => ?_)
          obtain ⟨σ42, eσ42, hg⟩ := tq_lj_s hg
          replace hP : va_P (dC, dI) tq_cl (wo cI cL cZ ad σ42) H := by rw [eσ42, ← ws_f19]; exact hP
          replace hD : va_D A (wo cI cL cZ ad σ42) := by rw [eσ42, ← ws_f19]; exact hD
          exact ih.2.2.2.2.2.2.2.2 hP hD hS (lv_sub hl [0] rfl) (tq_gi hg hn)
        · replace hg := tq_if_f c40 hg
          refine lv_iconst (v := 0) hx hb d_Mo_work_143 (by decide) ?_
          refine lv_istore_n (lv' := [(2, .int 0), (0, .ref (ad 5)), (1, .int x1)]) hx hb d_Mo_work_144 rfl hl (by decide) rfl (fun ls hl => ?_)
          exact ih.2.2.2.2.2.1 hP hD hS (lv_sub hl [1, 2, 0] rfl) (tq_gi hg hn)
      · intro x1 x2 σ H locs ls hP hD hS hl h9
        obtain ⟨q9, hg, hn⟩ := tq_go_s h9 (show ¬ (145 : Nat) = tq_rt by decide)
        replace hg : bk_Mo_work_145 [x1, x2] [] σ = some q9 := hg
        unfold bk_Mo_work_145 at hg
        refine lv_iload_n hx hb d_Mo_work_145 rfl (lv_at hl 2 rfl) ?_
        refine lv_aload_n hx hb d_Mo_work_146 rfl (lv_at hl 0 rfl) ?_
        refine va_get (D := (dC, dI)) (ci := 5) (v := .int (σ.2.2 13)) (C := "TableauNodesModel") (T := F_Mo) (N := 25) hx hb hts in_Mo hown hK hP 5 rfl rfl 3 (by decide) (hts _ tw_602) (fun _ h9 => h9) rfl d_Mo_work_147 ?_
        refine lv_icmp_ge (tgt := 176) hx hb d_Mo_work_150 (by decide) (fun c43 => ?_) (fun c43 => ?_)
        · replace hg := tq_if_t c43 hg
          refine lv_aload_n hx hb d_Mo_work_176 rfl (lv_at hl 0 rfl) ?_
          refine va_get (D := (dC, dI)) (ci := 5) (v := .ref (ad 44)) (C := "TableauNodesModel") (T := F_Mo) (N := 25) hx hb hts in_Mo hown hK hP 5 rfl rfl 20 (by decide) (hts _ tw_619) (fun _ h9 => h9) rfl d_Mo_work_177 ?_
          refine lv_iload_n hx hb d_Mo_work_180 rfl (lv_at hl 1 rfl) ?_
          refine lv_iconst (v := 0) hx hb d_Mo_work_181 (by decide) ?_
          obtain ⟨g44, hg⟩ := tq_gd_s hg
          refine va_iast hx hb hK hP hD hS 44 0 rfl rfl g44 d_Mo_work_182 (fun H locs hP hD hS => ?_)
          obtain ⟨σ45, eσ45, hg⟩ := tq_lj_s hg
          replace hP : va_P (dC, dI) tq_cl (wo cI cL cZ ad σ45) H := by rw [eσ45, ← ws_i31]; exact hP
          replace hD : va_D A (wo cI cL cZ ad σ45) := by rw [eσ45, ← ws_i31]; exact hD
          refine lv_iconst (v := 0) hx hb d_Mo_work_183 (by decide) ?_
          refine lv_istore_n (lv' := [(2, .int 0), (0, .ref (ad 5)), (1, .int x1)]) hx hb d_Mo_work_184 rfl hl (by decide) rfl (fun ls hl => ?_)
          exact ih.2.2.2.2.2.2.1 hP hD hS (lv_sub hl [1, 2, 0] rfl) (tq_gi hg hn)
        · replace hg := tq_if_f c43 hg
          refine lv_aload_n hx hb d_Mo_work_153 rfl (lv_at hl 0 rfl) ?_
          refine va_get (D := (dC, dI)) (ci := 5) (v := .ref (ad 42)) (C := "TableauNodesModel") (T := F_Mo) (N := 25) hx hb hts in_Mo hown hK hP 5 rfl rfl 18 (by decide) (hts _ tw_617) (fun _ h9 => h9) rfl d_Mo_work_154 ?_
          refine lv_bipush (v := 80) hx hb d_Mo_work_157 (by decide) ?_
          refine lv_iload_n hx hb d_Mo_work_159 rfl (lv_at hl 1 rfl) ?_
          refine lv_imul hx hb d_Mo_work_160 ?_
          refine lv_iload_n hx hb d_Mo_work_161 rfl (lv_at hl 2 rfl) ?_
          refine lv_iadd hx hb d_Mo_work_162 ?_
          refine lv_aload_n hx hb d_Mo_work_163 rfl (lv_at hl 0 rfl) ?_
          refine lv_iload_n hx hb d_Mo_work_164 rfl (lv_at hl 1 rfl) ?_
          refine lv_iload_n hx hb d_Mo_work_165 rfl (lv_at hl 2 rfl) ?_
          obtain ⟨r47, σ48, f46, hg⟩ := tq_ob_s hg
          refine tq_aI (va_runV (As := [.int x1, .int x2]) (rest := [.int ((80 * x1) + x2), .ref (ad 42)]) ⟨hx, hb, hml, hown, hts⟩ (c_Mo_weigh l dC dI cI cL cZ ad tt H.size σ x1 x2  r47 σ48 f46) (cwV 2 hts (tq_gV tw_735 tw_737 ts_37 tw_6 tw_738) rfl rfl rfl (by decide +kernel) ⟨Nat.le_of_ble_eq_true rfl, Nat.le_of_ble_eq_true rfl⟩) ⟨tq_bl, va_recv hK hP (ci := 5) (q0 := 5) rfl rfl, (tq_pr hP hK hD hS hA hZ hN)⟩ rfl rfl hl.1 rfl (lv_room (Nat.le_of_ble_eq_true rfl)) d_Mo_work_166 ⟨Nat.zero_le _, Nat.zero_le _⟩) hD hS hA (fun H locs hP hD hS => ?_)
          obtain ⟨g49, hg⟩ := tq_gd_s hg
          refine va_zast hx hb hK hP hD hS 42 2 rfl rfl g49 d_Mo_work_169 (fun H locs hP hD hS => ?_)
          obtain ⟨σ50, eσ50, hg⟩ := tq_lj_s hg
          replace hP : va_P (dC, dI) tq_cl (wo cI cL cZ ad σ50) H := by rw [eσ50, ← ws_i29]; exact hP
          replace hD : va_D A (wo cI cL cZ ad σ50) := by rw [eσ50, ← ws_i29]; exact hD
          obtain ⟨v51, ev51, hg⟩ := tq_lj_s hg
          refine lv_iinc (v := v51) (lv' := [(2, .int v51), (0, .ref (ad 5)), (1, .int x1)]) hx hb d_Mo_work_170 hl (k := 2) rfl (by rw [ev51]; rfl) (by decide) rfl (fun ls hl => ?_)
          refine lv_goto (tgt := 145) hx hb d_Mo_work_173 (by decide) ?_
          exact ih.2.2.2.2.2.1 hP hD hS (lv_sub hl [1, 2, 0] rfl) (tq_gi hg hn)
      · intro x1 x2 σ H locs ls hP hD hS hl h9
        obtain ⟨q9, hg, hn⟩ := tq_go_s h9 (show ¬ (185 : Nat) = tq_rt by decide)
        replace hg : bk_Mo_work_185 [x1, x2] [] σ = some q9 := hg
        unfold bk_Mo_work_185 at hg
        refine lv_iload_n hx hb d_Mo_work_185 rfl (lv_at hl 2 rfl) ?_
        refine lv_aload_n hx hb d_Mo_work_186 rfl (lv_at hl 0 rfl) ?_
        refine va_get (D := (dC, dI)) (ci := 5) (v := .int (σ.2.2 15)) (C := "TableauNodesModel") (T := F_Mo) (N := 25) hx hb hts in_Mo hown hK hP 5 rfl rfl 8 (by decide) (hts _ tw_607) (fun _ h9 => h9) rfl d_Mo_work_187 ?_
        refine lv_icmp_ge (tgt := 235) hx hb d_Mo_work_190 (by decide) (fun c52 => ?_) (fun c52 => ?_)
        · replace hg := tq_if_t c52 hg
          refine lv_aload_n hx hb d_Mo_work_235 rfl (lv_at hl 0 rfl) ?_
          refine va_get (D := (dC, dI)) (ci := 5) (v := .ref (ad 43)) (C := "TableauNodesModel") (T := F_Mo) (N := 25) hx hb hts in_Mo hown hK hP 5 rfl rfl 19 (by decide) (hts _ tw_618) (fun _ h9 => h9) rfl d_Mo_work_236 ?_
          refine lv_iload_n hx hb d_Mo_work_239 rfl (lv_at hl 1 rfl) ?_
          refine lv_iconst (v := 0) hx hb d_Mo_work_240 (by decide) ?_
          obtain ⟨g53, hg⟩ := tq_gd_s hg
          refine va_iast hx hb hK hP hD hS 43 0 rfl rfl g53 d_Mo_work_241 (fun H locs hP hD hS => ?_)
          obtain ⟨σ54, eσ54, hg⟩ := tq_lj_s hg
          replace hP : va_P (dC, dI) tq_cl (wo cI cL cZ ad σ54) H := by rw [eσ54, ← ws_i30]; exact hP
          replace hD : va_D A (wo cI cL cZ ad σ54) := by rw [eσ54, ← ws_i30]; exact hD
          refine lv_iconst (v := 0) hx hb d_Mo_work_242 (by decide) ?_
          refine lv_istore_n (lv' := [(2, .int 0), (0, .ref (ad 5)), (1, .int x1)]) hx hb d_Mo_work_243 rfl hl (by decide) rfl (fun ls hl => ?_)
          exact ih.2.2.2.2.2.2.2.1 hP hD hS (lv_sub hl [1, 2, 0] rfl) (tq_gi hg hn)
        · replace hg := tq_if_f c52 hg
          refine lv_aload_n hx hb d_Mo_work_193 rfl (lv_at hl 0 rfl) ?_
          refine lv_iload_n hx hb d_Mo_work_194 rfl (lv_at hl 1 rfl) ?_
          refine lv_aload_n hx hb d_Mo_work_195 rfl (lv_at hl 0 rfl) ?_
          refine va_get (D := (dC, dI)) (ci := 5) (v := .ref (ad 34)) (C := "TableauNodesModel") (T := F_Mo) (N := 25) hx hb hts in_Mo hown hK hP 5 rfl rfl 6 (by decide) (hts _ tw_605) (fun _ h9 => h9) rfl d_Mo_work_196 ?_
          refine lv_iload_n hx hb d_Mo_work_199 rfl (lv_at hl 2 rfl) ?_
          obtain ⟨g55, hg⟩ := tq_gd_s hg
          refine va_iald hx hb hK hP 34 0 rfl rfl g55 d_Mo_work_200 ?_
          obtain ⟨r57, σ58, f56, hg⟩ := tq_ob_s hg
          refine tq_aI (va_runV (As := [.int x1, .int (ia σ 21 x2)]) (rest := []) ⟨hx, hb, hml, hown, hts⟩ (c_Mo_isHeld l dC dI cI cL cZ ad tt H.size σ x1 (ia σ 21 x2)  r57 σ58 f56) (cwV 2 hts (tq_gV tw_743 tw_745 ts_39 tw_6 tw_746) rfl rfl rfl (by decide +kernel) ⟨Nat.le_of_ble_eq_true rfl, Nat.le_of_ble_eq_true rfl⟩) ⟨tq_bl, va_recv hK hP (ci := 5) (q0 := 5) rfl rfl, (tq_pr hP hK hD hS hA hZ hN)⟩ rfl rfl hl.1 rfl (lv_room (Nat.le_of_ble_eq_true rfl)) d_Mo_work_201 ⟨Nat.zero_le _, Nat.zero_le _⟩) hD hS hA (fun H locs hP hD hS => ?_)
          refine lv_if_eq (tgt := 229) hx hb d_Mo_work_204 (by decide) (fun c59 => ?_) (fun c59 => ?_)
          · replace hg := tq_if_t c59 hg
            obtain ⟨v60, ev60, hg⟩ := tq_lj_s hg
            refine lv_iinc (v := v60) (lv' := [(2, .int v60), (0, .ref (ad 5)), (1, .int x1)]) hx hb d_Mo_work_229 hl (k := 2) rfl (by rw [ev60]; rfl) (by decide) rfl (fun ls hl => ?_)
            refine lv_goto (tgt := 185) hx hb d_Mo_work_232 (by decide) ?_
            exact ih.2.2.2.2.2.2.1 hP hD hS (lv_sub hl [1, 2, 0] rfl) (tq_gi hg hn)
          · replace hg := tq_if_f c59 hg
            refine lv_aload_n hx hb d_Mo_work_207 rfl (lv_at hl 0 rfl) ?_
            refine lv_iload_n hx hb d_Mo_work_208 rfl (lv_at hl 1 rfl) ?_
            refine lv_aload_n hx hb d_Mo_work_209 rfl (lv_at hl 0 rfl) ?_
            refine va_get (D := (dC, dI)) (ci := 5) (v := .ref (ad 35)) (C := "TableauNodesModel") (T := F_Mo) (N := 25) hx hb hts in_Mo hown hK hP 5 rfl rfl 7 (by decide) (hts _ tw_606) (fun _ h9 => h9) rfl d_Mo_work_210 ?_
            refine lv_iload_n hx hb d_Mo_work_213 rfl (lv_at hl 2 rfl) ?_
            obtain ⟨g61, hg⟩ := tq_gd_s hg
            refine va_iald hx hb hK hP 35 0 rfl rfl g61 d_Mo_work_214 ?_
            obtain ⟨r63, σ64, f62, hg⟩ := tq_ob_s hg
            refine tq_aI (va_runV (As := [.int x1, .int (ia σ58 22 x2)]) (rest := []) ⟨hx, hb, hml, hown, hts⟩ (c_Mo_isHeld l dC dI cI cL cZ ad tt H.size σ58 x1 (ia σ58 22 x2)  r63 σ64 f62) (cwV 2 hts (tq_gV tw_743 tw_745 ts_39 tw_6 tw_746) rfl rfl rfl (by decide +kernel) ⟨Nat.le_of_ble_eq_true rfl, Nat.le_of_ble_eq_true rfl⟩) ⟨tq_bl, va_recv hK hP (ci := 5) (q0 := 5) rfl rfl, (tq_pr hP hK hD hS hA hZ hN)⟩ rfl rfl hl.1 rfl (lv_room (Nat.le_of_ble_eq_true rfl)) d_Mo_work_215 ⟨Nat.zero_le _, Nat.zero_le _⟩) hD hS hA (fun H locs hP hD hS => ?_)
            refine lv_if_ne (tgt := 229) hx hb d_Mo_work_218 (by decide) (fun c65 => ?_) (fun c65 => ?_)
            · replace hg := tq_if_t c65 hg
              obtain ⟨v66, ev66, hg⟩ := tq_lj_s hg
              refine lv_iinc (v := v66) (lv' := [(2, .int v66), (0, .ref (ad 5)), (1, .int x1)]) hx hb d_Mo_work_229 hl (k := 2) rfl (by rw [ev66]; rfl) (by decide) rfl (fun ls hl => ?_)
              refine lv_goto (tgt := 185) hx hb d_Mo_work_232 (by decide) ?_
              exact ih.2.2.2.2.2.2.1 hP hD hS (lv_sub hl [1, 2, 0] rfl) (tq_gi hg hn)
            · replace hg := tq_if_n c65 hg
              refine lv_aload_n hx hb d_Mo_work_221 rfl (lv_at hl 0 rfl) ?_
              refine va_get (D := (dC, dI)) (ci := 5) (v := .ref (ad 44)) (C := "TableauNodesModel") (T := F_Mo) (N := 25) hx hb hts in_Mo hown hK hP 5 rfl rfl 20 (by decide) (hts _ tw_619) (fun _ h9 => h9) rfl d_Mo_work_222 ?_
              refine lv_iload_n hx hb d_Mo_work_225 rfl (lv_at hl 1 rfl) ?_
              refine lv_bipush (v := (-2)) hx hb d_Mo_work_226 (by decide) ?_
              obtain ⟨g67, hg⟩ := tq_gd_s hg
              refine va_iast hx hb hK hP hD hS 44 0 rfl rfl g67 d_Mo_work_228 (fun H locs hP hD hS => ?_)
              obtain ⟨σ68, eσ68, hg⟩ := tq_lj_s hg
              replace hP : va_P (dC, dI) tq_cl (wo cI cL cZ ad σ68) H := by rw [eσ68, ← ws_i31]; exact hP
              replace hD : va_D A (wo cI cL cZ ad σ68) := by rw [eσ68, ← ws_i31]; exact hD
              obtain ⟨v69, ev69, hg⟩ := tq_lj_s hg
              refine lv_iinc (v := v69) (lv' := [(2, .int v69), (0, .ref (ad 5)), (1, .int x1)]) hx hb d_Mo_work_229 hl (k := 2) rfl (by rw [ev69]; rfl) (by decide) rfl (fun ls hl => ?_)
              refine lv_goto (tgt := 185) hx hb d_Mo_work_232 (by decide) ?_
              exact ih.2.2.2.2.2.2.1 hP hD hS (lv_sub hl [1, 2, 0] rfl) (tq_gi hg hn)
      · intro x1 x2 σ H locs ls hP hD hS hl h9
        obtain ⟨q9, hg, hn⟩ := tq_go_s h9 (show ¬ (244 : Nat) = tq_rt by decide)
        replace hg : bk_Mo_work_244 [x1, x2] [] σ = some q9 := hg
        unfold bk_Mo_work_244 at hg
        refine lv_iload_n hx hb d_Mo_work_244 rfl (lv_at hl 2 rfl) ?_
        refine lv_aload_n hx hb d_Mo_work_245 rfl (lv_at hl 0 rfl) ?_
        refine va_get (D := (dC, dI)) (ci := 5) (v := .int (σ.2.2 14)) (C := "TableauNodesModel") (T := F_Mo) (N := 25) hx hb hts in_Mo hown hK hP 5 rfl rfl 5 (by decide) (hts _ tw_604) (fun _ h9 => h9) rfl d_Mo_work_246 ?_
        refine lv_icmp_ge (tgt := 305) hx hb d_Mo_work_249 (by decide) (fun c70 => ?_) (fun c70 => ?_)
        · replace hg := tq_if_t c70 hg
          obtain ⟨v71, ev71, hg⟩ := tq_lj_s hg
          refine lv_iinc (v := v71) (lv' := [(1, .int v71), (0, .ref (ad 5)), (2, .int x2)]) hx hb d_Mo_work_305 hl (k := 1) rfl (by rw [ev71]; rfl) (by decide) rfl (fun ls hl => ?_)
          refine lv_goto (tgt := 135) hx hb d_Mo_work_308 (by decide) ?_
          exact ih.2.2.2.2.1 hP hD hS (lv_sub hl [1, 0] rfl) (tq_gi hg hn)
        · replace hg := tq_if_f c70 hg
          refine lv_aload_n hx hb d_Mo_work_252 rfl (lv_at hl 0 rfl) ?_
          refine va_get (D := (dC, dI)) (ci := 5) (v := .ref (ad 30)) (C := "TableauNodesModel") (T := F_Mo) (N := 25) hx hb hts in_Mo hown hK hP 5 rfl rfl 0 (by decide) (hts _ tw_599) (fun _ h9 => h9) rfl d_Mo_work_253 ?_
          refine lv_aload_n hx hb d_Mo_work_256 rfl (lv_at hl 0 rfl) ?_
          refine va_get (D := (dC, dI)) (ci := 5) (v := .ref (ad 33)) (C := "TableauNodesModel") (T := F_Mo) (N := 25) hx hb hts in_Mo hown hK hP 5 rfl rfl 4 (by decide) (hts _ tw_603) (fun _ h9 => h9) rfl d_Mo_work_257 ?_
          refine lv_iload_n hx hb d_Mo_work_260 rfl (lv_at hl 2 rfl) ?_
          obtain ⟨g72, hg⟩ := tq_gd_s hg
          refine va_iald hx hb hK hP 33 0 rfl rfl g72 d_Mo_work_261 ?_
          obtain ⟨g73, hg⟩ := tq_gd_s hg
          refine va_iald hx hb hK hP 30 0 rfl rfl g73 d_Mo_work_262 ?_
          refine lv_bipush (v := 6) hx hb d_Mo_work_263 (by decide) ?_
          refine lv_icmp_ne (tgt := 299) hx hb d_Mo_work_265 (by decide) (fun c74 => ?_) (fun c74 => ?_)
          · replace hg := tq_if_t c74 hg
            obtain ⟨v75, ev75, hg⟩ := tq_lj_s hg
            refine lv_iinc (v := v75) (lv' := [(2, .int v75), (0, .ref (ad 5)), (1, .int x1)]) hx hb d_Mo_work_299 hl (k := 2) rfl (by rw [ev75]; rfl) (by decide) rfl (fun ls hl => ?_)
            refine lv_goto (tgt := 244) hx hb d_Mo_work_302 (by decide) ?_
            exact ih.2.2.2.2.2.2.2.1 hP hD hS (lv_sub hl [1, 2, 0] rfl) (tq_gi hg hn)
          · replace hg := tq_if_n c74 hg
            refine lv_aload_n hx hb d_Mo_work_268 rfl (lv_at hl 0 rfl) ?_
            refine lv_iload_n hx hb d_Mo_work_269 rfl (lv_at hl 1 rfl) ?_
            refine lv_aload_n hx hb d_Mo_work_270 rfl (lv_at hl 0 rfl) ?_
            refine va_get (D := (dC, dI)) (ci := 5) (v := .ref (ad 32)) (C := "TableauNodesModel") (T := F_Mo) (N := 25) hx hb hts in_Mo hown hK hP 5 rfl rfl 2 (by decide) (hts _ tw_601) (fun _ h9 => h9) rfl d_Mo_work_271 ?_
            refine lv_aload_n hx hb d_Mo_work_274 rfl (lv_at hl 0 rfl) ?_
            refine va_get (D := (dC, dI)) (ci := 5) (v := .ref (ad 33)) (C := "TableauNodesModel") (T := F_Mo) (N := 25) hx hb hts in_Mo hown hK hP 5 rfl rfl 4 (by decide) (hts _ tw_603) (fun _ h9 => h9) rfl d_Mo_work_275 ?_
            refine lv_iload_n hx hb d_Mo_work_278 rfl (lv_at hl 2 rfl) ?_
            obtain ⟨g76, hg⟩ := tq_gd_s hg
            refine va_iald hx hb hK hP 33 0 rfl rfl g76 d_Mo_work_279 ?_
            obtain ⟨g77, hg⟩ := tq_gd_s hg
            refine va_iald hx hb hK hP 32 0 rfl rfl g77 d_Mo_work_280 ?_
            obtain ⟨r79, σ80, f78, hg⟩ := tq_ob_s hg
            refine tq_aI (va_runV (As := [.int x1, .int (ia σ 19 (ia σ 20 x2))]) (rest := []) ⟨hx, hb, hml, hown, hts⟩ (c_Mo_isHeld l dC dI cI cL cZ ad tt H.size σ x1 (ia σ 19 (ia σ 20 x2))  r79 σ80 f78) (cwV 2 hts (tq_gV tw_743 tw_745 ts_39 tw_6 tw_746) rfl rfl rfl (by decide +kernel) ⟨Nat.le_of_ble_eq_true rfl, Nat.le_of_ble_eq_true rfl⟩) ⟨tq_bl, va_recv hK hP (ci := 5) (q0 := 5) rfl rfl, (tq_pr hP hK hD hS hA hZ hN)⟩ rfl rfl hl.1 rfl (lv_room (Nat.le_of_ble_eq_true rfl)) d_Mo_work_281 ⟨Nat.zero_le _, Nat.zero_le _⟩) hD hS hA (fun H locs hP hD hS => ?_)
            refine lv_if_eq (tgt := 299) hx hb d_Mo_work_284 (by decide) (fun c81 => ?_) (fun c81 => ?_)
            · replace hg := tq_if_t c81 hg
              obtain ⟨v82, ev82, hg⟩ := tq_lj_s hg
              refine lv_iinc (v := v82) (lv' := [(2, .int v82), (0, .ref (ad 5)), (1, .int x1)]) hx hb d_Mo_work_299 hl (k := 2) rfl (by rw [ev82]; rfl) (by decide) rfl (fun ls hl => ?_)
              refine lv_goto (tgt := 244) hx hb d_Mo_work_302 (by decide) ?_
              exact ih.2.2.2.2.2.2.2.1 hP hD hS (lv_sub hl [1, 2, 0] rfl) (tq_gi hg hn)
            · replace hg := tq_if_f c81 hg
              refine lv_aload_n hx hb d_Mo_work_287 rfl (lv_at hl 0 rfl) ?_
              refine va_get (D := (dC, dI)) (ci := 5) (v := .ref (ad 43)) (C := "TableauNodesModel") (T := F_Mo) (N := 25) hx hb hts in_Mo hown hK hP 5 rfl rfl 19 (by decide) (hts _ tw_618) (fun _ h9 => h9) rfl d_Mo_work_288 ?_
              refine lv_iload_n hx hb d_Mo_work_291 rfl (lv_at hl 1 rfl) ?_
              refine lv_dup2_11 hx hb d_Mo_work_292 rfl rfl ?_
              obtain ⟨g83, hg⟩ := tq_gd_s hg
              refine va_iald hx hb hK hP 43 0 rfl rfl g83 d_Mo_work_293 ?_
              refine lv_iconst (v := 1) hx hb d_Mo_work_294 (by decide) ?_
              refine lv_iload_n hx hb d_Mo_work_295 rfl (lv_at hl 2 rfl) ?_
              refine lv_ishl hx hb d_Mo_work_296 ?_
              refine lv_ior hx hb d_Mo_work_297 ?_
              obtain ⟨g84, hg⟩ := tq_gd_s hg
              refine va_iast hx hb hK hP hD hS 43 0 rfl rfl g84 d_Mo_work_298 (fun H locs hP hD hS => ?_)
              obtain ⟨σ85, eσ85, hg⟩ := tq_lj_s hg
              replace hP : va_P (dC, dI) tq_cl (wo cI cL cZ ad σ85) H := by rw [eσ85, ← ws_i30]; exact hP
              replace hD : va_D A (wo cI cL cZ ad σ85) := by rw [eσ85, ← ws_i30]; exact hD
              obtain ⟨v86, ev86, hg⟩ := tq_lj_s hg
              refine lv_iinc (v := v86) (lv' := [(2, .int v86), (0, .ref (ad 5)), (1, .int x1)]) hx hb d_Mo_work_299 hl (k := 2) rfl (by rw [ev86]; rfl) (by decide) rfl (fun ls hl => ?_)
              refine lv_goto (tgt := 244) hx hb d_Mo_work_302 (by decide) ?_
              exact ih.2.2.2.2.2.2.2.1 hP hD hS (lv_sub hl [1, 2, 0] rfl) (tq_gi hg hn)
      · intro  σ H locs ls hP hD hS hl h9
        obtain ⟨q9, hg, hn⟩ := tq_go_s h9 (show ¬ (321 : Nat) = tq_rt by decide)
        replace hg : bk_Mo_work_321 [] [] σ = some q9 := hg
        unfold bk_Mo_work_321 at hg
        refine lv_aload_n hx hb d_Mo_work_321 rfl (lv_at hl 0 rfl) ?_
        refine lv_aload_n hx hb d_Mo_work_322 rfl (lv_at hl 0 rfl) ?_
        refine va_get (D := (dC, dI)) (ci := 5) (v := .int (σ.2.2 19)) (C := "TableauNodesModel") (T := F_Mo) (N := 25) hx hb hts in_Mo hown hK hP 5 rfl rfl 22 (by decide) (hts _ tw_621) (fun _ h9 => h9) rfl d_Mo_work_323 ?_
        refine lv_iconst (v := 1) hx hb d_Mo_work_326 (by decide) ?_
        refine lv_iadd hx hb d_Mo_work_327 ?_
        obtain ⟨r88, σ89, f87, hg⟩ := tq_ob_s hg
        refine tq_aI (va_runV (As := [.int ((σ.2.2 19) + 1)]) (rest := []) ⟨hx, hb, hml, hown, hts⟩ (c_Mo_turn l dC dI cI cL cZ ad tt H.size σ ((σ.2.2 19) + 1)  r88 σ89 f87) (cwV 1 hts (tq_gV tw_747 tw_749 ts_40 tw_6 tw_750) rfl rfl rfl (by decide +kernel) ⟨Nat.le_of_ble_eq_true rfl, Nat.le_of_ble_eq_true rfl⟩) ⟨tq_bl, va_recv hK hP (ci := 5) (q0 := 5) rfl rfl, (tq_pr hP hK hD hS hA hZ hN)⟩ rfl rfl hl.1 rfl (lv_room (Nat.le_of_ble_eq_true rfl)) d_Mo_work_328 ⟨Nat.zero_le _, Nat.zero_le _⟩) hD hS hA (fun H locs hP hD hS => ?_)
        refine lv_if_eq (tgt := 347) hx hb d_Mo_work_331 (by decide) (fun c90 => ?_) (fun c90 => ?_)
        · replace hg := tq_if_t c90 hg
          exact W.vret hx hb hr (fun t ht hW => ⟨⟨σ89, rfl, tq_grV hg hn, by rw [ht]; exact hP, va_K.moved hW.alike hK, hD⟩, hS.F ht⟩) hS.2.2 d_Mo_work_347
        · replace hg := tq_if_f c90 hg
          refine lv_aload_n hx hb d_Mo_work_334 rfl (lv_at hl 0 rfl) ?_
          refine lv_dup hx hb d_Mo_work_335 rfl ?_
          refine va_get (D := (dC, dI)) (ci := 5) (v := .int (σ89.2.2 19)) (C := "TableauNodesModel") (T := F_Mo) (N := 25) hx hb hts in_Mo hown hK hP 5 rfl rfl 22 (by decide) (hts _ tw_621) (fun _ h9 => h9) rfl d_Mo_work_336 ?_
          refine lv_iconst (v := 1) hx hb d_Mo_work_339 (by decide) ?_
          refine lv_iadd hx hb d_Mo_work_340 ?_
          refine va_put (D := (dC, dI)) (ci := 5) (v := .int ((σ89.2.2 19) + 1)) (ty := .int) (C := "TableauNodesModel") (T := F_Mo) (N := 25) hx hb hts in_Mo ty_Mo tk_Mo nm_Mo hown hK hP hD hS 5 rfl rfl 22 (by decide) (hts _ tw_621) (fun _ h9 => h9) rfl (by decide +kernel) rfl rfl (Nat.le_of_ble_eq_true rfl) d_Mo_work_341 (fun H locs hP hD hS => ?_)
          obtain ⟨σ91, eσ91, hg⟩ := tq_lj_s hg
          replace hP : va_P (dC, dI) tq_cl (wo cI cL cZ ad σ91) H := by rw [eσ91, ← ws_f19]; exact hP
          replace hD : va_D A (wo cI cL cZ ad σ91) := by rw [eσ91, ← ws_f19]; exact hD
          refine lv_goto (tgt := 321) hx hb d_Mo_work_344 (by decide) ?_
          exact ih.2.2.2.2.2.2.2.2 hP hD hS (lv_sub hl [0] rfl) (tq_gi hg hn)
  exact (key n0).1 hP hD hS hl h0
noncomputable def bk_Mo_sees_0 : List Int32 → List Int64 → tq_S → Option tq_C
  | [x1, x2, x3], [], σ => tq_ob (tq_fI st_Mo_forbids (0, [x1, x3], [], σ)) (fun r2 σ3 => tq_gd x2 1024 (if ¬ (r2 &&& (ia σ3 30 x2)) = 0 then some (tq_rt, [0], [], σ3) else some (tq_rt, [1], [], σ3)))
  | _, _, _ => none
noncomputable def st_Mo_sees (c : tq_C) : Option tq_C := if c.1 = 0 then bk_Mo_sees_0 c.2.1 c.2.2.1 c.2.2.2 else none
set_option maxHeartbeats 40000000 in
set_option maxRecDepth 100000 in
theorem c_Mo_sees (l : Launch) (dC : Nat → ClassId) (dI : Nat → Nat → Nat) (cI cL cZ : ClassId) (ad : Nat → Nat) (tt : Nat) (sz : Nat) (σ : tq_S) (a1 : Int32) (a2 : Int32) (a3 : Int32) (r : Int32) (σ' : tq_S) (hf : tq_fI st_Mo_sees (0, [a1, a2, a3], [], σ) = some (r, σ')) : Met l y_Mo_sees w_Mo_sees ({ frames := 1, cells := 0, slots := 0, locals := 25 } : Room) (va_Pc [.ref (ad 5), .int a1, .int a2, .int a3] (tq_B dC dI cI cL cZ tt (wo cI cL cZ ad σ) sz)) (va_Qi (fun (r' : Int32) (u : tq_S) => r' = r ∧ u = σ') (tq_E dC dI cI cL cZ (wo cI cL cZ ad) (va_A (wo cI cL cZ ad σ) sz)) (va_A (wo cI cL cZ ad σ) sz)) 0 0 (va_A (wo cI cL cZ ad σ) sz) := by
  obtain ⟨n0, h0⟩ := tq_fI_to hf
  refine Met.ofW (cc := prog_7_method_21_code) (maxL := 4) (ret := (some .boolean)) (by decide) rfl ?_
  intro p e s m args below meth c s₁ B hml hv
  obtain ⟨rfl, hsz, hP, hK, hD0, hZ, hN⟩ := hv
  have hx := B.exec
  have hb := B.bytes
  have hr := B.returns
  have hts : ∀ w ∈ tq_T, w.before _ s = true := fun w h => atoms_spec (ws := w_Mo_sees) B.pre w (List.mem_cons_of_mem _ h)
  have hown : s.vm.findClass "TableauNodesModel" = some m.cls := findClass_of_methodNamed B.named
  have hlocks := B.notSynchronized
  subst hsz
  have hD := hD0.self (sz := s.heap.size)
  have hS : va_S (va_A (wo cI cL cZ ad σ) s.heap.size) s.heap s.heap [] := va_S.rf
  have hA : ∀ q : Nat, s.heap.size ≤ q → va_A (wo cI cL cZ ad σ) s.heap.size q := fun q h => Or.inr h
  generalize va_A (wo cI cL cZ ad σ) s.heap.size = A at hD hS hA hZ ⊢
  have hl := lv_entry ([.ref (ad 5), .int a1, .int a2, .int a3]) (n := 4) (Nat.le_of_ble_eq_true rfl)
  rw [lg_entry_eq]
  generalize (lg_sl ([.ref (ad 5), .int a1, .int a2, .int a3]) ++ List.replicate (4 - (lg_sl ([.ref (ad 5), .int a1, .int a2, .int a3])).length) Slot.unset).toArray = ls at hl ⊢
  have hl : lv_has ls 4 [(0, .ref (ad 5)), (1, .int a1), (2, .int a2), (3, .int a3)] := hl
  have key : ∀ n : Nat, (∀ {x1 x2 x3 : Int32} {σ : tq_S} {H : Heap} {locs : List Loc} {ls : Array Slot}, va_P (dC, dI) tq_cl (wo cI cL cZ ad σ) H → va_D A (wo cI cL cZ ad σ) → va_S A s.heap H locs → lv_has ls 4 [(0, .ref (ad 5)), (1, .int x1), (2, .int x2), (3, .int x3)] → tq_go st_Mo_sees n (0, [x1, x2, x3], [], σ) = some (tq_rt, [r], [], σ') → W p l e (headSpec w_Mo_sees ({ frames := 1, cells := 0, slots := 0, locals := 25 } : Room)).room s m ([.ref (ad 5), .int a1, .int a2, .int a3] : List Value).toArray below meth c H locs 0 0 (MQ below (va_Qi (fun (r' : Int32) (u : tq_S) => r' = r ∧ u = σ') (tq_E dC dI cI cL cZ (wo cI cL cZ ad) A) A) ([.ref (ad 5), .int a1, .int a2, .int a3] : List Value).toArray s 0 0 A) (F0 m 0 ls [])) := by
    intro n
    induction n with
    | zero => exact fun _ _ _ _ h => by cases h
    | succ n ih =>
      intro x1 x2 x3 σ H locs ls hP hD hS hl h9
      obtain ⟨q9, hg, hn⟩ := tq_go_s h9 (show ¬ (0 : Nat) = tq_rt by decide)
      replace hg : bk_Mo_sees_0 [x1, x2, x3] [] σ = some q9 := hg
      unfold bk_Mo_sees_0 at hg
      refine lv_aload_n hx hb d_Mo_sees_0 rfl (lv_at hl 0 rfl) ?_
      refine lv_iload_n hx hb d_Mo_sees_1 rfl (lv_at hl 1 rfl) ?_
      refine lv_iload_n hx hb d_Mo_sees_2 rfl (lv_at hl 3 rfl) ?_
      obtain ⟨r2, σ3, f1, hg⟩ := tq_ob_s hg
      refine tq_aI (va_runV (As := [.int x1, .int x3]) (rest := []) ⟨hx, hb, hml, hown, hts⟩ (c_Mo_forbids l dC dI cI cL cZ ad tt H.size σ x1 x3  r2 σ3 f1) (cwV 2 hts (tq_gV tw_751 tw_753 ts_41 tw_6 tw_754) rfl rfl rfl (by decide +kernel) ⟨Nat.le_of_ble_eq_true rfl, Nat.le_of_ble_eq_true rfl⟩) ⟨tq_bl, va_recv hK hP (ci := 5) (q0 := 5) rfl rfl, (tq_pr hP hK hD hS hA hZ hN)⟩ rfl rfl hl.1 rfl (lv_room (Nat.le_of_ble_eq_true rfl)) d_Mo_sees_3 ⟨Nat.zero_le _, Nat.zero_le _⟩) hD hS hA (fun H locs hP hD hS => ?_)
      refine lv_aload_n hx hb d_Mo_sees_6 rfl (lv_at hl 0 rfl) ?_
      refine va_get (D := (dC, dI)) (ci := 5) (v := .ref (ad 43)) (C := "TableauNodesModel") (T := F_Mo) (N := 25) hx hb hts in_Mo hown hK hP 5 rfl rfl 19 (by decide) (hts _ tw_618) (fun _ h9 => h9) rfl d_Mo_sees_7 ?_
      refine lv_iload_n hx hb d_Mo_sees_10 rfl (lv_at hl 2 rfl) ?_
      obtain ⟨g4, hg⟩ := tq_gd_s hg
      refine va_iald hx hb hK hP 43 0 rfl rfl g4 d_Mo_sees_11 ?_
      refine lv_iand hx hb d_Mo_sees_12 ?_
      refine lv_if_ne (tgt := 20) hx hb d_Mo_sees_13 (by decide) (fun c5 => ?_) (fun c5 => ?_)
      · replace hg := tq_if_t c5 hg
        refine lv_iconst (v := 0) hx hb d_Mo_sees_20 (by decide) ?_
        exact W.zret (v := 0) hx hb hr rfl (fun t ht hW => ⟨⟨0, σ3, rfl, tq_grI hg hn, by rw [ht]; exact hP, va_K.moved hW.alike hK, hD⟩, hS.F ht⟩) hS.2.2 d_Mo_sees_21
      · replace hg := tq_if_n c5 hg
        refine lv_iconst (v := 1) hx hb d_Mo_sees_16 (by decide) ?_
        refine lv_goto (tgt := 21) hx hb d_Mo_sees_17 (by decide) ?_
        exact W.zret (v := 1) hx hb hr rfl (fun t ht hW => ⟨⟨1, σ3, rfl, tq_grI hg hn, by rw [ht]; exact hP, va_K.moved hW.alike hK, hD⟩, hS.F ht⟩) hS.2.2 d_Mo_sees_21
  exact (key n0) hP hD hS hl h0
noncomputable def bk_Mo_can_0 : List Int32 → List Int64 → tq_S → Option tq_C
  | [x1], [], σ => tq_ob (tq_fI st_Mo_isConcept (0, [x1], [], σ)) (fun r2 σ3 => if ¬ r2 = 0 then tq_ob (tq_fV st_Mo_work (0, [], [], σ3)) (fun _ σ7 => some (16, [x1, 0], [], σ7)) else some (tq_rt, [(-1)], [], σ3))
  | _, _, _ => none
noncomputable def bk_Mo_can_16 : List Int32 → List Int64 → tq_S → Option tq_C
  | [x1, x2], [], σ => tq_ob (tq_fI st_Mo_size (0, [], [], σ)) (fun r9 σ10 => if r9 ≤ x2 then some (48, [x2], [], σ10) else tq_gd x2 1024 (if ¬ (ia σ10 31 x2) = 0 then tq_lj (x2 + 1) (fun v14 => some (16, [x1, v14], [], σ10)) else tq_ob (tq_fI st_Mo_isHeld (0, [x2, x1], [], σ10)) (fun r16 σ17 => if ¬ r16 = 0 then some (48, [x2], [], σ17) else tq_lj (x2 + 1) (fun v19 => some (16, [x1, v19], [], σ17)))))
  | _, _, _ => none
noncomputable def bk_Mo_can_48 : List Int32 → List Int64 → tq_S → Option tq_C
  | [x2], [], σ => tq_ob (tq_fI st_Mo_size (0, [], [], σ)) (fun r21 σ22 => if r21 ≤ x2 then some (tq_rt, [0], [], σ22) else some (tq_rt, [1], [], σ22))
  | _, _, _ => none
noncomputable def st_Mo_can (c : tq_C) : Option tq_C := if c.1 = 0 then bk_Mo_can_0 c.2.1 c.2.2.1 c.2.2.2 else if c.1 = 16 then bk_Mo_can_16 c.2.1 c.2.2.1 c.2.2.2 else if c.1 = 48 then bk_Mo_can_48 c.2.1 c.2.2.1 c.2.2.2 else none
set_option maxHeartbeats 40000000 in
set_option maxRecDepth 100000 in
theorem c_Mo_can (l : Launch) (dC : Nat → ClassId) (dI : Nat → Nat → Nat) (cI cL cZ : ClassId) (ad : Nat → Nat) (tt : Nat) (sz : Nat) (σ : tq_S) (a1 : Int32) (r : Int32) (σ' : tq_S) (hf : tq_fI st_Mo_can (0, [a1], [], σ) = some (r, σ')) : Met l y_Mo_can w_Mo_can ({ frames := 4, cells := 0, slots := 0, locals := 92 } : Room) (va_Pc [.ref (ad 5), .int a1] (tq_B dC dI cI cL cZ tt (wo cI cL cZ ad σ) sz)) (va_Qi (fun (r' : Int32) (u : tq_S) => r' = r ∧ u = σ') (tq_E dC dI cI cL cZ (wo cI cL cZ ad) (va_A (wo cI cL cZ ad σ) sz)) (va_A (wo cI cL cZ ad σ) sz)) 0 0 (va_A (wo cI cL cZ ad σ) sz) := by
  obtain ⟨n0, h0⟩ := tq_fI_to hf
  refine Met.ofW (cc := prog_7_method_24_code) (maxL := 3) (ret := (some .int)) (by decide) rfl ?_
  intro p e s m args below meth c s₁ B hml hv
  obtain ⟨rfl, hsz, hP, hK, hD0, hZ, hN⟩ := hv
  have hx := B.exec
  have hb := B.bytes
  have hr := B.returns
  have hts : ∀ w ∈ tq_T, w.before _ s = true := fun w h => atoms_spec (ws := w_Mo_can) B.pre w (List.mem_cons_of_mem _ h)
  have hown : s.vm.findClass "TableauNodesModel" = some m.cls := findClass_of_methodNamed B.named
  have hlocks := B.notSynchronized
  subst hsz
  have hD := hD0.self (sz := s.heap.size)
  have hS : va_S (va_A (wo cI cL cZ ad σ) s.heap.size) s.heap s.heap [] := va_S.rf
  have hA : ∀ q : Nat, s.heap.size ≤ q → va_A (wo cI cL cZ ad σ) s.heap.size q := fun q h => Or.inr h
  generalize va_A (wo cI cL cZ ad σ) s.heap.size = A at hD hS hA hZ ⊢
  have hl := lv_entry ([.ref (ad 5), .int a1]) (n := 3) (Nat.le_of_ble_eq_true rfl)
  rw [lg_entry_eq]
  generalize (lg_sl ([.ref (ad 5), .int a1]) ++ List.replicate (3 - (lg_sl ([.ref (ad 5), .int a1])).length) Slot.unset).toArray = ls at hl ⊢
  have hl : lv_has ls 3 [(0, .ref (ad 5)), (1, .int a1)] := hl
  have key : ∀ n : Nat, (∀ {x1 : Int32} {σ : tq_S} {H : Heap} {locs : List Loc} {ls : Array Slot}, va_P (dC, dI) tq_cl (wo cI cL cZ ad σ) H → va_D A (wo cI cL cZ ad σ) → va_S A s.heap H locs → lv_has ls 3 [(0, .ref (ad 5)), (1, .int x1)] → tq_go st_Mo_can n (0, [x1], [], σ) = some (tq_rt, [r], [], σ') → W p l e (headSpec w_Mo_can ({ frames := 4, cells := 0, slots := 0, locals := 92 } : Room)).room s m ([.ref (ad 5), .int a1] : List Value).toArray below meth c H locs 0 0 (MQ below (va_Qi (fun (r' : Int32) (u : tq_S) => r' = r ∧ u = σ') (tq_E dC dI cI cL cZ (wo cI cL cZ ad) A) A) ([.ref (ad 5), .int a1] : List Value).toArray s 0 0 A) (F0 m 0 ls [])) ∧ (∀ {x1 x2 : Int32} {σ : tq_S} {H : Heap} {locs : List Loc} {ls : Array Slot}, va_P (dC, dI) tq_cl (wo cI cL cZ ad σ) H → va_D A (wo cI cL cZ ad σ) → va_S A s.heap H locs → lv_has ls 3 [(0, .ref (ad 5)), (1, .int x1), (2, .int x2)] → tq_go st_Mo_can n (16, [x1, x2], [], σ) = some (tq_rt, [r], [], σ') → W p l e (headSpec w_Mo_can ({ frames := 4, cells := 0, slots := 0, locals := 92 } : Room)).room s m ([.ref (ad 5), .int a1] : List Value).toArray below meth c H locs 0 0 (MQ below (va_Qi (fun (r' : Int32) (u : tq_S) => r' = r ∧ u = σ') (tq_E dC dI cI cL cZ (wo cI cL cZ ad) A) A) ([.ref (ad 5), .int a1] : List Value).toArray s 0 0 A) (F0 m 16 ls [])) ∧ (∀ {x2 : Int32} {σ : tq_S} {H : Heap} {locs : List Loc} {ls : Array Slot}, va_P (dC, dI) tq_cl (wo cI cL cZ ad σ) H → va_D A (wo cI cL cZ ad σ) → va_S A s.heap H locs → lv_has ls 3 [(0, .ref (ad 5)), (2, .int x2)] → tq_go st_Mo_can n (48, [x2], [], σ) = some (tq_rt, [r], [], σ') → W p l e (headSpec w_Mo_can ({ frames := 4, cells := 0, slots := 0, locals := 92 } : Room)).room s m ([.ref (ad 5), .int a1] : List Value).toArray below meth c H locs 0 0 (MQ below (va_Qi (fun (r' : Int32) (u : tq_S) => r' = r ∧ u = σ') (tq_E dC dI cI cL cZ (wo cI cL cZ ad) A) A) ([.ref (ad 5), .int a1] : List Value).toArray s 0 0 A) (F0 m 48 ls [])) := by
    intro n
    induction n with
    | zero => exact ⟨(fun _ _ _ _ h => by cases h), (fun _ _ _ _ h => by cases h), (fun _ _ _ _ h => by cases h)⟩
    | succ n ih =>
      refine ⟨?_, ?_, ?_⟩
      · intro x1 σ H locs ls hP hD hS hl h9
        obtain ⟨q9, hg, hn⟩ := tq_go_s h9 (show ¬ (0 : Nat) = tq_rt by decide)
        replace hg : bk_Mo_can_0 [x1] [] σ = some q9 := hg
        unfold bk_Mo_can_0 at hg
        refine lv_aload_n hx hb d_Mo_can_0 rfl (lv_at hl 0 rfl) ?_
        refine lv_iload_n hx hb d_Mo_can_1 rfl (lv_at hl 1 rfl) ?_
        obtain ⟨r2, σ3, f1, hg⟩ := tq_ob_s hg
        refine tq_aI (va_runV (As := [.int x1]) (rest := []) ⟨hx, hb, hml, hown, hts⟩ (c_Mo_isConcept l dC dI cI cL cZ ad tt H.size σ x1  r2 σ3 f1) (cwV 1 hts (tq_gV tw_692 tw_694 ts_34 tw_6 tw_695) rfl rfl rfl (by decide +kernel) ⟨Nat.le_of_ble_eq_true rfl, Nat.le_of_ble_eq_true rfl⟩) ⟨tq_bl, va_recv hK hP (ci := 5) (q0 := 5) rfl rfl, (tq_pr hP hK hD hS hA hZ hN)⟩ rfl rfl hl.1 rfl (lv_room (Nat.le_of_ble_eq_true rfl)) d_Mo_can_2 ⟨Nat.zero_le _, Nat.zero_le _⟩) hD hS hA (fun H locs hP hD hS => ?_)
        refine lv_if_ne (tgt := 10) hx hb d_Mo_can_5 (by decide) (fun c4 => ?_) (fun c4 => ?_)
        · replace hg := tq_if_t c4 hg
          refine lv_aload_n hx hb d_Mo_can_10 rfl (lv_at hl 0 rfl) ?_
          obtain ⟨⟨⟩, σ7, f5, hg⟩ := tq_ob_s hg
          refine tq_aV (va_runV (As := []) (rest := []) ⟨hx, hb, hml, hown, hts⟩ (c_Mo_work l dC dI cI cL cZ ad tt H.size σ3    σ7 f5) (cwV 0 hts (tq_gV tw_727 tw_729 ts_35 tw_6 tw_730) rfl rfl rfl (by decide +kernel) ⟨Nat.le_of_ble_eq_true rfl, Nat.le_of_ble_eq_true rfl⟩) ⟨tq_bl, va_recv hK hP (ci := 5) (q0 := 5) rfl rfl, (tq_pr hP hK hD hS hA hZ hN)⟩ rfl rfl hl.1 rfl (lv_room (Nat.le_of_ble_eq_true rfl)) d_Mo_can_11 ⟨Nat.zero_le _, Nat.zero_le _⟩) hD hS hA (fun H locs hP hD hS => ?_)
          refine lv_iconst (v := 0) hx hb d_Mo_can_14 (by decide) ?_
          refine lv_istore_n (lv' := [(2, .int 0), (0, .ref (ad 5)), (1, .int x1)]) hx hb d_Mo_can_15 rfl hl (by decide) rfl (fun ls hl => ?_)
          exact ih.2.1 hP hD hS (lv_sub hl [1, 2, 0] rfl) (tq_gi hg hn)
        · replace hg := tq_if_n c4 hg
          refine lv_iconst (v := (-1)) hx hb d_Mo_can_8 (by decide) ?_
          exact W.iret (v := (-1)) hx hb hr (fun t ht hW => ⟨⟨(-1), σ3, rfl, tq_grI hg hn, by rw [ht]; exact hP, va_K.moved hW.alike hK, hD⟩, hS.F ht⟩) hS.2.2 d_Mo_can_9
      · intro x1 x2 σ H locs ls hP hD hS hl h9
        obtain ⟨q9, hg, hn⟩ := tq_go_s h9 (show ¬ (16 : Nat) = tq_rt by decide)
        replace hg : bk_Mo_can_16 [x1, x2] [] σ = some q9 := hg
        unfold bk_Mo_can_16 at hg
        refine lv_iload_n hx hb d_Mo_can_16 rfl (lv_at hl 2 rfl) ?_
        refine lv_aload_n hx hb d_Mo_can_17 rfl (lv_at hl 0 rfl) ?_
        obtain ⟨r9, σ10, f8, hg⟩ := tq_ob_s hg
        refine tq_aI (va_runV (As := []) (rest := [.int x2]) ⟨hx, hb, hml, hown, hts⟩ (c_Mo_size l dC dI cI cL cZ ad tt H.size σ   r9 σ10 f8) (cwV 0 hts (tq_gV tw_731 tw_733 ts_36 tw_6 tw_734) rfl rfl rfl (by decide +kernel) ⟨Nat.le_of_ble_eq_true rfl, Nat.le_of_ble_eq_true rfl⟩) ⟨tq_bl, va_recv hK hP (ci := 5) (q0 := 5) rfl rfl, (tq_pr hP hK hD hS hA hZ hN)⟩ rfl rfl hl.1 rfl (lv_room (Nat.le_of_ble_eq_true rfl)) d_Mo_can_18 ⟨Nat.zero_le _, Nat.zero_le _⟩) hD hS hA (fun H locs hP hD hS => ?_)
        refine lv_icmp_ge (tgt := 48) hx hb d_Mo_can_21 (by decide) (fun c11 => ?_) (fun c11 => ?_)
        · replace hg := tq_if_t c11 hg
          exact ih.2.2 hP hD hS (lv_sub hl [0, 2] rfl) (tq_gi hg hn)
        · replace hg := tq_if_f c11 hg
          refine lv_aload_n hx hb d_Mo_can_24 rfl (lv_at hl 0 rfl) ?_
          refine va_get (D := (dC, dI)) (ci := 5) (v := .ref (ad 44)) (C := "TableauNodesModel") (T := F_Mo) (N := 25) hx hb hts in_Mo hown hK hP 5 rfl rfl 20 (by decide) (hts _ tw_619) (fun _ h9 => h9) rfl d_Mo_can_25 ?_
          refine lv_iload_n hx hb d_Mo_can_28 rfl (lv_at hl 2 rfl) ?_
          obtain ⟨g12, hg⟩ := tq_gd_s hg
          refine va_iald hx hb hK hP 44 0 rfl rfl g12 d_Mo_can_29 ?_
          refine lv_if_ne (tgt := 42) hx hb d_Mo_can_30 (by decide) (fun c13 => ?_) (fun c13 => ?_)
          · replace hg := tq_if_t c13 hg
            obtain ⟨v14, ev14, hg⟩ := tq_lj_s hg
            refine lv_iinc (v := v14) (lv' := [(2, .int v14), (0, .ref (ad 5)), (1, .int x1)]) hx hb d_Mo_can_42 hl (k := 2) rfl (by rw [ev14]; rfl) (by decide) rfl (fun ls hl => ?_)
            refine lv_goto (tgt := 16) hx hb d_Mo_can_45 (by decide) ?_
            exact ih.2.1 hP hD hS (lv_sub hl [1, 2, 0] rfl) (tq_gi hg hn)
          · replace hg := tq_if_n c13 hg
            refine lv_aload_n hx hb d_Mo_can_33 rfl (lv_at hl 0 rfl) ?_
            refine lv_iload_n hx hb d_Mo_can_34 rfl (lv_at hl 2 rfl) ?_
            refine lv_iload_n hx hb d_Mo_can_35 rfl (lv_at hl 1 rfl) ?_
            obtain ⟨r16, σ17, f15, hg⟩ := tq_ob_s hg
            refine tq_aI (va_runV (As := [.int x2, .int x1]) (rest := []) ⟨hx, hb, hml, hown, hts⟩ (c_Mo_isHeld l dC dI cI cL cZ ad tt H.size σ10 x2 x1  r16 σ17 f15) (cwV 2 hts (tq_gV tw_743 tw_745 ts_39 tw_6 tw_746) rfl rfl rfl (by decide +kernel) ⟨Nat.le_of_ble_eq_true rfl, Nat.le_of_ble_eq_true rfl⟩) ⟨tq_bl, va_recv hK hP (ci := 5) (q0 := 5) rfl rfl, (tq_pr hP hK hD hS hA hZ hN)⟩ rfl rfl hl.1 rfl (lv_room (Nat.le_of_ble_eq_true rfl)) d_Mo_can_36 ⟨Nat.zero_le _, Nat.zero_le _⟩) hD hS hA (fun H locs hP hD hS => ?_)
            refine lv_if_ne (tgt := 48) hx hb d_Mo_can_39 (by decide) (fun c18 => ?_) (fun c18 => ?_)
            · replace hg := tq_if_t c18 hg
              exact ih.2.2 hP hD hS (lv_sub hl [0, 2] rfl) (tq_gi hg hn)
            · replace hg := tq_if_n c18 hg
              obtain ⟨v19, ev19, hg⟩ := tq_lj_s hg
              refine lv_iinc (v := v19) (lv' := [(2, .int v19), (0, .ref (ad 5)), (1, .int x1)]) hx hb d_Mo_can_42 hl (k := 2) rfl (by rw [ev19]; rfl) (by decide) rfl (fun ls hl => ?_)
              refine lv_goto (tgt := 16) hx hb d_Mo_can_45 (by decide) ?_
              exact ih.2.1 hP hD hS (lv_sub hl [1, 2, 0] rfl) (tq_gi hg hn)
      · intro x2 σ H locs ls hP hD hS hl h9
        obtain ⟨q9, hg, hn⟩ := tq_go_s h9 (show ¬ (48 : Nat) = tq_rt by decide)
        replace hg : bk_Mo_can_48 [x2] [] σ = some q9 := hg
        unfold bk_Mo_can_48 at hg
        refine lv_iload_n hx hb d_Mo_can_48 rfl (lv_at hl 1 rfl) ?_
        refine lv_aload_n hx hb d_Mo_can_49 rfl (lv_at hl 0 rfl) ?_
        obtain ⟨r21, σ22, f20, hg⟩ := tq_ob_s hg
        refine tq_aI (va_runV (As := []) (rest := [.int x2]) ⟨hx, hb, hml, hown, hts⟩ (c_Mo_size l dC dI cI cL cZ ad tt H.size σ   r21 σ22 f20) (cwV 0 hts (tq_gV tw_731 tw_733 ts_36 tw_6 tw_734) rfl rfl rfl (by decide +kernel) ⟨Nat.le_of_ble_eq_true rfl, Nat.le_of_ble_eq_true rfl⟩) ⟨tq_bl, va_recv hK hP (ci := 5) (q0 := 5) rfl rfl, (tq_pr hP hK hD hS hA hZ hN)⟩ rfl rfl hl.1 rfl (lv_room (Nat.le_of_ble_eq_true rfl)) d_Mo_can_50 ⟨Nat.zero_le _, Nat.zero_le _⟩) hD hS hA (fun H locs hP hD hS => ?_)
        refine lv_icmp_ge (tgt := 60) hx hb d_Mo_can_53 (by decide) (fun c23 => ?_) (fun c23 => ?_)
        · replace hg := tq_if_t c23 hg
          refine lv_iconst (v := 0) hx hb d_Mo_can_60 (by decide) ?_
          exact W.iret (v := 0) hx hb hr (fun t ht hW => ⟨⟨0, σ22, rfl, tq_grI hg hn, by rw [ht]; exact hP, va_K.moved hW.alike hK, hD⟩, hS.F ht⟩) hS.2.2 d_Mo_can_61
        · replace hg := tq_if_f c23 hg
          refine lv_iconst (v := 1) hx hb d_Mo_can_56 (by decide) ?_
          refine lv_goto (tgt := 61) hx hb d_Mo_can_57 (by decide) ?_
          exact W.iret (v := 1) hx hb hr (fun t ht hW => ⟨⟨1, σ22, rfl, tq_grI hg hn, by rw [ht]; exact hP, va_K.moved hW.alike hK, hD⟩, hS.F ht⟩) hS.2.2 d_Mo_can_61
  exact (key n0).1 hP hD hS hl h0
noncomputable def bk_Mo_below_0 : List Int32 → List Int64 → tq_S → Option tq_C
  | [x1, x2], [], σ => tq_ob (tq_fI st_Mo_isConcept (0, [x1], [], σ)) (fun r2 σ3 => if r2 = 0 then some (tq_rt, [(-1)], [], σ3) else tq_ob (tq_fI st_Mo_isConcept (0, [x2], [], σ3)) (fun r6 σ7 => if ¬ r6 = 0 then tq_ob (tq_fV st_Mo_work (0, [], [], σ7)) (fun _ σ11 => some (24, [x1, x2, 0], [], σ11)) else some (tq_rt, [(-1)], [], σ7)))
  | _, _, _ => none
noncomputable def bk_Mo_below_24 : List Int32 → List Int64 → tq_S → Option tq_C
  | [x1, x2, x3], [], σ => tq_ob (tq_fI st_Mo_size (0, [], [], σ)) (fun r13 σ14 => if r13 ≤ x3 then some (65, [x3], [], σ14) else tq_gd x3 1024 (if ¬ (ia σ14 31 x3) = 0 then tq_lj (x3 + 1) (fun v18 => some (24, [x1, x2, v18], [], σ14)) else tq_ob (tq_fI st_Mo_isHeld (0, [x3, x1], [], σ14)) (fun r20 σ21 => if r20 = 0 then tq_lj (x3 + 1) (fun v23 => some (24, [x1, x2, v23], [], σ21)) else tq_ob (tq_fI st_Mo_isHeld (0, [x3, x2], [], σ21)) (fun r25 σ26 => if r25 = 0 then some (65, [x3], [], σ26) else tq_lj (x3 + 1) (fun v28 => some (24, [x1, x2, v28], [], σ26))))))
  | _, _, _ => none
noncomputable def bk_Mo_below_65 : List Int32 → List Int64 → tq_S → Option tq_C
  | [x3], [], σ => tq_ob (tq_fI st_Mo_size (0, [], [], σ)) (fun r30 σ31 => if r30 ≤ x3 then some (tq_rt, [1], [], σ31) else some (tq_rt, [0], [], σ31))
  | _, _, _ => none
noncomputable def st_Mo_below (c : tq_C) : Option tq_C := if c.1 = 0 then bk_Mo_below_0 c.2.1 c.2.2.1 c.2.2.2 else if c.1 = 24 then bk_Mo_below_24 c.2.1 c.2.2.1 c.2.2.2 else if c.1 = 65 then bk_Mo_below_65 c.2.1 c.2.2.1 c.2.2.2 else none
set_option maxHeartbeats 40000000 in
set_option maxRecDepth 100000 in
theorem c_Mo_below (l : Launch) (dC : Nat → ClassId) (dI : Nat → Nat → Nat) (cI cL cZ : ClassId) (ad : Nat → Nat) (tt : Nat) (sz : Nat) (σ : tq_S) (a1 : Int32) (a2 : Int32) (r : Int32) (σ' : tq_S) (hf : tq_fI st_Mo_below (0, [a1, a2], [], σ) = some (r, σ')) : Met l y_Mo_below w_Mo_below ({ frames := 4, cells := 0, slots := 0, locals := 92 } : Room) (va_Pc [.ref (ad 5), .int a1, .int a2] (tq_B dC dI cI cL cZ tt (wo cI cL cZ ad σ) sz)) (va_Qi (fun (r' : Int32) (u : tq_S) => r' = r ∧ u = σ') (tq_E dC dI cI cL cZ (wo cI cL cZ ad) (va_A (wo cI cL cZ ad σ) sz)) (va_A (wo cI cL cZ ad σ) sz)) 0 0 (va_A (wo cI cL cZ ad σ) sz) := by
  obtain ⟨n0, h0⟩ := tq_fI_to hf
  refine Met.ofW (cc := prog_7_method_25_code) (maxL := 4) (ret := (some .int)) (by decide) rfl ?_
  intro p e s m args below meth c s₁ B hml hv
  obtain ⟨rfl, hsz, hP, hK, hD0, hZ, hN⟩ := hv
  have hx := B.exec
  have hb := B.bytes
  have hr := B.returns
  have hts : ∀ w ∈ tq_T, w.before _ s = true := fun w h => atoms_spec (ws := w_Mo_below) B.pre w (List.mem_cons_of_mem _ h)
  have hown : s.vm.findClass "TableauNodesModel" = some m.cls := findClass_of_methodNamed B.named
  have hlocks := B.notSynchronized
  subst hsz
  have hD := hD0.self (sz := s.heap.size)
  have hS : va_S (va_A (wo cI cL cZ ad σ) s.heap.size) s.heap s.heap [] := va_S.rf
  have hA : ∀ q : Nat, s.heap.size ≤ q → va_A (wo cI cL cZ ad σ) s.heap.size q := fun q h => Or.inr h
  generalize va_A (wo cI cL cZ ad σ) s.heap.size = A at hD hS hA hZ ⊢
  have hl := lv_entry ([.ref (ad 5), .int a1, .int a2]) (n := 4) (Nat.le_of_ble_eq_true rfl)
  rw [lg_entry_eq]
  generalize (lg_sl ([.ref (ad 5), .int a1, .int a2]) ++ List.replicate (4 - (lg_sl ([.ref (ad 5), .int a1, .int a2])).length) Slot.unset).toArray = ls at hl ⊢
  have hl : lv_has ls 4 [(0, .ref (ad 5)), (1, .int a1), (2, .int a2)] := hl
  have key : ∀ n : Nat, (∀ {x1 x2 : Int32} {σ : tq_S} {H : Heap} {locs : List Loc} {ls : Array Slot}, va_P (dC, dI) tq_cl (wo cI cL cZ ad σ) H → va_D A (wo cI cL cZ ad σ) → va_S A s.heap H locs → lv_has ls 4 [(0, .ref (ad 5)), (1, .int x1), (2, .int x2)] → tq_go st_Mo_below n (0, [x1, x2], [], σ) = some (tq_rt, [r], [], σ') → W p l e (headSpec w_Mo_below ({ frames := 4, cells := 0, slots := 0, locals := 92 } : Room)).room s m ([.ref (ad 5), .int a1, .int a2] : List Value).toArray below meth c H locs 0 0 (MQ below (va_Qi (fun (r' : Int32) (u : tq_S) => r' = r ∧ u = σ') (tq_E dC dI cI cL cZ (wo cI cL cZ ad) A) A) ([.ref (ad 5), .int a1, .int a2] : List Value).toArray s 0 0 A) (F0 m 0 ls [])) ∧ (∀ {x1 x2 x3 : Int32} {σ : tq_S} {H : Heap} {locs : List Loc} {ls : Array Slot}, va_P (dC, dI) tq_cl (wo cI cL cZ ad σ) H → va_D A (wo cI cL cZ ad σ) → va_S A s.heap H locs → lv_has ls 4 [(0, .ref (ad 5)), (1, .int x1), (2, .int x2), (3, .int x3)] → tq_go st_Mo_below n (24, [x1, x2, x3], [], σ) = some (tq_rt, [r], [], σ') → W p l e (headSpec w_Mo_below ({ frames := 4, cells := 0, slots := 0, locals := 92 } : Room)).room s m ([.ref (ad 5), .int a1, .int a2] : List Value).toArray below meth c H locs 0 0 (MQ below (va_Qi (fun (r' : Int32) (u : tq_S) => r' = r ∧ u = σ') (tq_E dC dI cI cL cZ (wo cI cL cZ ad) A) A) ([.ref (ad 5), .int a1, .int a2] : List Value).toArray s 0 0 A) (F0 m 24 ls [])) ∧ (∀ {x3 : Int32} {σ : tq_S} {H : Heap} {locs : List Loc} {ls : Array Slot}, va_P (dC, dI) tq_cl (wo cI cL cZ ad σ) H → va_D A (wo cI cL cZ ad σ) → va_S A s.heap H locs → lv_has ls 4 [(0, .ref (ad 5)), (3, .int x3)] → tq_go st_Mo_below n (65, [x3], [], σ) = some (tq_rt, [r], [], σ') → W p l e (headSpec w_Mo_below ({ frames := 4, cells := 0, slots := 0, locals := 92 } : Room)).room s m ([.ref (ad 5), .int a1, .int a2] : List Value).toArray below meth c H locs 0 0 (MQ below (va_Qi (fun (r' : Int32) (u : tq_S) => r' = r ∧ u = σ') (tq_E dC dI cI cL cZ (wo cI cL cZ ad) A) A) ([.ref (ad 5), .int a1, .int a2] : List Value).toArray s 0 0 A) (F0 m 65 ls [])) := by
    intro n
    induction n with
    | zero => exact ⟨(fun _ _ _ _ h => by cases h), (fun _ _ _ _ h => by cases h), (fun _ _ _ _ h => by cases h)⟩
    | succ n ih =>
      refine ⟨?_, ?_, ?_⟩
      · intro x1 x2 σ H locs ls hP hD hS hl h9
        obtain ⟨q9, hg, hn⟩ := tq_go_s h9 (show ¬ (0 : Nat) = tq_rt by decide)
        replace hg : bk_Mo_below_0 [x1, x2] [] σ = some q9 := hg
        unfold bk_Mo_below_0 at hg
        refine lv_aload_n hx hb d_Mo_below_0 rfl (lv_at hl 0 rfl) ?_
        refine lv_iload_n hx hb d_Mo_below_1 rfl (lv_at hl 1 rfl) ?_
        obtain ⟨r2, σ3, f1, hg⟩ := tq_ob_s hg
        refine tq_aI (va_runV (As := [.int x1]) (rest := []) ⟨hx, hb, hml, hown, hts⟩ (c_Mo_isConcept l dC dI cI cL cZ ad tt H.size σ x1  r2 σ3 f1) (cwV 1 hts (tq_gV tw_692 tw_694 ts_34 tw_6 tw_695) rfl rfl rfl (by decide +kernel) ⟨Nat.le_of_ble_eq_true rfl, Nat.le_of_ble_eq_true rfl⟩) ⟨tq_bl, va_recv hK hP (ci := 5) (q0 := 5) rfl rfl, (tq_pr hP hK hD hS hA hZ hN)⟩ rfl rfl hl.1 rfl (lv_room (Nat.le_of_ble_eq_true rfl)) d_Mo_below_2 ⟨Nat.zero_le _, Nat.zero_le _⟩) hD hS hA (fun H locs hP hD hS => ?_)
        refine lv_if_eq (tgt := 16) hx hb d_Mo_below_5 (by decide) (fun c4 => ?_) (fun c4 => ?_)
        · replace hg := tq_if_t c4 hg
          refine lv_iconst (v := (-1)) hx hb d_Mo_below_16 (by decide) ?_
          exact W.iret (v := (-1)) hx hb hr (fun t ht hW => ⟨⟨(-1), σ3, rfl, tq_grI hg hn, by rw [ht]; exact hP, va_K.moved hW.alike hK, hD⟩, hS.F ht⟩) hS.2.2 d_Mo_below_17
        · replace hg := tq_if_f c4 hg
          refine lv_aload_n hx hb d_Mo_below_8 rfl (lv_at hl 0 rfl) ?_
          refine lv_iload_n hx hb d_Mo_below_9 rfl (lv_at hl 2 rfl) ?_
          obtain ⟨r6, σ7, f5, hg⟩ := tq_ob_s hg
          refine tq_aI (va_runV (As := [.int x2]) (rest := []) ⟨hx, hb, hml, hown, hts⟩ (c_Mo_isConcept l dC dI cI cL cZ ad tt H.size σ3 x2  r6 σ7 f5) (cwV 1 hts (tq_gV tw_692 tw_694 ts_34 tw_6 tw_695) rfl rfl rfl (by decide +kernel) ⟨Nat.le_of_ble_eq_true rfl, Nat.le_of_ble_eq_true rfl⟩) ⟨tq_bl, va_recv hK hP (ci := 5) (q0 := 5) rfl rfl, (tq_pr hP hK hD hS hA hZ hN)⟩ rfl rfl hl.1 rfl (lv_room (Nat.le_of_ble_eq_true rfl)) d_Mo_below_10 ⟨Nat.zero_le _, Nat.zero_le _⟩) hD hS hA (fun H locs hP hD hS => ?_)
          refine lv_if_ne (tgt := 18) hx hb d_Mo_below_13 (by decide) (fun c8 => ?_) (fun c8 => ?_)
          · replace hg := tq_if_t c8 hg
            refine lv_aload_n hx hb d_Mo_below_18 rfl (lv_at hl 0 rfl) ?_
            obtain ⟨⟨⟩, σ11, f9, hg⟩ := tq_ob_s hg
            refine tq_aV (va_runV (As := []) (rest := []) ⟨hx, hb, hml, hown, hts⟩ (c_Mo_work l dC dI cI cL cZ ad tt H.size σ7    σ11 f9) (cwV 0 hts (tq_gV tw_727 tw_729 ts_35 tw_6 tw_730) rfl rfl rfl (by decide +kernel) ⟨Nat.le_of_ble_eq_true rfl, Nat.le_of_ble_eq_true rfl⟩) ⟨tq_bl, va_recv hK hP (ci := 5) (q0 := 5) rfl rfl, (tq_pr hP hK hD hS hA hZ hN)⟩ rfl rfl hl.1 rfl (lv_room (Nat.le_of_ble_eq_true rfl)) d_Mo_below_19 ⟨Nat.zero_le _, Nat.zero_le _⟩) hD hS hA (fun H locs hP hD hS => ?_)
            refine lv_iconst (v := 0) hx hb d_Mo_below_22 (by decide) ?_
            refine lv_istore_n (lv' := [(3, .int 0), (0, .ref (ad 5)), (1, .int x1), (2, .int x2)]) hx hb d_Mo_below_23 rfl hl (by decide) rfl (fun ls hl => ?_)
            exact ih.2.1 hP hD hS (lv_sub hl [1, 2, 3, 0] rfl) (tq_gi hg hn)
          · replace hg := tq_if_n c8 hg
            refine lv_iconst (v := (-1)) hx hb d_Mo_below_16 (by decide) ?_
            exact W.iret (v := (-1)) hx hb hr (fun t ht hW => ⟨⟨(-1), σ7, rfl, tq_grI hg hn, by rw [ht]; exact hP, va_K.moved hW.alike hK, hD⟩, hS.F ht⟩) hS.2.2 d_Mo_below_17
      · intro x1 x2 x3 σ H locs ls hP hD hS hl h9
        obtain ⟨q9, hg, hn⟩ := tq_go_s h9 (show ¬ (24 : Nat) = tq_rt by decide)
        replace hg : bk_Mo_below_24 [x1, x2, x3] [] σ = some q9 := hg
        unfold bk_Mo_below_24 at hg
        refine lv_iload_n hx hb d_Mo_below_24 rfl (lv_at hl 3 rfl) ?_
        refine lv_aload_n hx hb d_Mo_below_25 rfl (lv_at hl 0 rfl) ?_
        obtain ⟨r13, σ14, f12, hg⟩ := tq_ob_s hg
        refine tq_aI (va_runV (As := []) (rest := [.int x3]) ⟨hx, hb, hml, hown, hts⟩ (c_Mo_size l dC dI cI cL cZ ad tt H.size σ   r13 σ14 f12) (cwV 0 hts (tq_gV tw_731 tw_733 ts_36 tw_6 tw_734) rfl rfl rfl (by decide +kernel) ⟨Nat.le_of_ble_eq_true rfl, Nat.le_of_ble_eq_true rfl⟩) ⟨tq_bl, va_recv hK hP (ci := 5) (q0 := 5) rfl rfl, (tq_pr hP hK hD hS hA hZ hN)⟩ rfl rfl hl.1 rfl (lv_room (Nat.le_of_ble_eq_true rfl)) d_Mo_below_26 ⟨Nat.zero_le _, Nat.zero_le _⟩) hD hS hA (fun H locs hP hD hS => ?_)
        refine lv_icmp_ge (tgt := 65) hx hb d_Mo_below_29 (by decide) (fun c15 => ?_) (fun c15 => ?_)
        · replace hg := tq_if_t c15 hg
          exact ih.2.2 hP hD hS (lv_sub hl [0, 3] rfl) (tq_gi hg hn)
        · replace hg := tq_if_f c15 hg
          refine lv_aload_n hx hb d_Mo_below_32 rfl (lv_at hl 0 rfl) ?_
          refine va_get (D := (dC, dI)) (ci := 5) (v := .ref (ad 44)) (C := "TableauNodesModel") (T := F_Mo) (N := 25) hx hb hts in_Mo hown hK hP 5 rfl rfl 20 (by decide) (hts _ tw_619) (fun _ h9 => h9) rfl d_Mo_below_33 ?_
          refine lv_iload_n hx hb d_Mo_below_36 rfl (lv_at hl 3 rfl) ?_
          obtain ⟨g16, hg⟩ := tq_gd_s hg
          refine va_iald hx hb hK hP 44 0 rfl rfl g16 d_Mo_below_37 ?_
          refine lv_if_ne (tgt := 59) hx hb d_Mo_below_38 (by decide) (fun c17 => ?_) (fun c17 => ?_)
          · replace hg := tq_if_t c17 hg
            obtain ⟨v18, ev18, hg⟩ := tq_lj_s hg
            refine lv_iinc (v := v18) (lv' := [(3, .int v18), (0, .ref (ad 5)), (1, .int x1), (2, .int x2)]) hx hb d_Mo_below_59 hl (k := 3) rfl (by rw [ev18]; rfl) (by decide) rfl (fun ls hl => ?_)
            refine lv_goto (tgt := 24) hx hb d_Mo_below_62 (by decide) ?_
            exact ih.2.1 hP hD hS (lv_sub hl [1, 2, 3, 0] rfl) (tq_gi hg hn)
          · replace hg := tq_if_n c17 hg
            refine lv_aload_n hx hb d_Mo_below_41 rfl (lv_at hl 0 rfl) ?_
            refine lv_iload_n hx hb d_Mo_below_42 rfl (lv_at hl 3 rfl) ?_
            refine lv_iload_n hx hb d_Mo_below_43 rfl (lv_at hl 1 rfl) ?_
            obtain ⟨r20, σ21, f19, hg⟩ := tq_ob_s hg
            refine tq_aI (va_runV (As := [.int x3, .int x1]) (rest := []) ⟨hx, hb, hml, hown, hts⟩ (c_Mo_isHeld l dC dI cI cL cZ ad tt H.size σ14 x3 x1  r20 σ21 f19) (cwV 2 hts (tq_gV tw_743 tw_745 ts_39 tw_6 tw_746) rfl rfl rfl (by decide +kernel) ⟨Nat.le_of_ble_eq_true rfl, Nat.le_of_ble_eq_true rfl⟩) ⟨tq_bl, va_recv hK hP (ci := 5) (q0 := 5) rfl rfl, (tq_pr hP hK hD hS hA hZ hN)⟩ rfl rfl hl.1 rfl (lv_room (Nat.le_of_ble_eq_true rfl)) d_Mo_below_44 ⟨Nat.zero_le _, Nat.zero_le _⟩) hD hS hA (fun H locs hP hD hS => ?_)
            refine lv_if_eq (tgt := 59) hx hb d_Mo_below_47 (by decide) (fun c22 => ?_) (fun c22 => ?_)
            · replace hg := tq_if_t c22 hg
              obtain ⟨v23, ev23, hg⟩ := tq_lj_s hg
              refine lv_iinc (v := v23) (lv' := [(3, .int v23), (0, .ref (ad 5)), (1, .int x1), (2, .int x2)]) hx hb d_Mo_below_59 hl (k := 3) rfl (by rw [ev23]; rfl) (by decide) rfl (fun ls hl => ?_)
              refine lv_goto (tgt := 24) hx hb d_Mo_below_62 (by decide) ?_
              exact ih.2.1 hP hD hS (lv_sub hl [1, 2, 3, 0] rfl) (tq_gi hg hn)
            · replace hg := tq_if_f c22 hg
              refine lv_aload_n hx hb d_Mo_below_50 rfl (lv_at hl 0 rfl) ?_
              refine lv_iload_n hx hb d_Mo_below_51 rfl (lv_at hl 3 rfl) ?_
              refine lv_iload_n hx hb d_Mo_below_52 rfl (lv_at hl 2 rfl) ?_
              obtain ⟨r25, σ26, f24, hg⟩ := tq_ob_s hg
              refine tq_aI (va_runV (As := [.int x3, .int x2]) (rest := []) ⟨hx, hb, hml, hown, hts⟩ (c_Mo_isHeld l dC dI cI cL cZ ad tt H.size σ21 x3 x2  r25 σ26 f24) (cwV 2 hts (tq_gV tw_743 tw_745 ts_39 tw_6 tw_746) rfl rfl rfl (by decide +kernel) ⟨Nat.le_of_ble_eq_true rfl, Nat.le_of_ble_eq_true rfl⟩) ⟨tq_bl, va_recv hK hP (ci := 5) (q0 := 5) rfl rfl, (tq_pr hP hK hD hS hA hZ hN)⟩ rfl rfl hl.1 rfl (lv_room (Nat.le_of_ble_eq_true rfl)) d_Mo_below_53 ⟨Nat.zero_le _, Nat.zero_le _⟩) hD hS hA (fun H locs hP hD hS => ?_)
              refine lv_if_eq (tgt := 65) hx hb d_Mo_below_56 (by decide) (fun c27 => ?_) (fun c27 => ?_)
              · replace hg := tq_if_t c27 hg
                exact ih.2.2 hP hD hS (lv_sub hl [0, 3] rfl) (tq_gi hg hn)
              · replace hg := tq_if_f c27 hg
                obtain ⟨v28, ev28, hg⟩ := tq_lj_s hg
                refine lv_iinc (v := v28) (lv' := [(3, .int v28), (0, .ref (ad 5)), (1, .int x1), (2, .int x2)]) hx hb d_Mo_below_59 hl (k := 3) rfl (by rw [ev28]; rfl) (by decide) rfl (fun ls hl => ?_)
                refine lv_goto (tgt := 24) hx hb d_Mo_below_62 (by decide) ?_
                exact ih.2.1 hP hD hS (lv_sub hl [1, 2, 3, 0] rfl) (tq_gi hg hn)
      · intro x3 σ H locs ls hP hD hS hl h9
        obtain ⟨q9, hg, hn⟩ := tq_go_s h9 (show ¬ (65 : Nat) = tq_rt by decide)
        replace hg : bk_Mo_below_65 [x3] [] σ = some q9 := hg
        unfold bk_Mo_below_65 at hg
        refine lv_iload_n hx hb d_Mo_below_65 rfl (lv_at hl 1 rfl) ?_
        refine lv_aload_n hx hb d_Mo_below_66 rfl (lv_at hl 0 rfl) ?_
        obtain ⟨r30, σ31, f29, hg⟩ := tq_ob_s hg
        refine tq_aI (va_runV (As := []) (rest := [.int x3]) ⟨hx, hb, hml, hown, hts⟩ (c_Mo_size l dC dI cI cL cZ ad tt H.size σ   r30 σ31 f29) (cwV 0 hts (tq_gV tw_731 tw_733 ts_36 tw_6 tw_734) rfl rfl rfl (by decide +kernel) ⟨Nat.le_of_ble_eq_true rfl, Nat.le_of_ble_eq_true rfl⟩) ⟨tq_bl, va_recv hK hP (ci := 5) (q0 := 5) rfl rfl, (tq_pr hP hK hD hS hA hZ hN)⟩ rfl rfl hl.1 rfl (lv_room (Nat.le_of_ble_eq_true rfl)) d_Mo_below_67 ⟨Nat.zero_le _, Nat.zero_le _⟩) hD hS hA (fun H locs hP hD hS => ?_)
        refine lv_icmp_ge (tgt := 77) hx hb d_Mo_below_70 (by decide) (fun c32 => ?_) (fun c32 => ?_)
        · replace hg := tq_if_t c32 hg
          refine lv_iconst (v := 1) hx hb d_Mo_below_77 (by decide) ?_
          exact W.iret (v := 1) hx hb hr (fun t ht hW => ⟨⟨1, σ31, rfl, tq_grI hg hn, by rw [ht]; exact hP, va_K.moved hW.alike hK, hD⟩, hS.F ht⟩) hS.2.2 d_Mo_below_78
        · replace hg := tq_if_f c32 hg
          refine lv_iconst (v := 0) hx hb d_Mo_below_73 (by decide) ?_
          refine lv_goto (tgt := 78) hx hb d_Mo_below_74 (by decide) ?_
          exact W.iret (v := 0) hx hb hr (fun t ht hW => ⟨⟨0, σ31, rfl, tq_grI hg hn, by rw [ht]; exact hP, va_K.moved hW.alike hK, hD⟩, hS.F ht⟩) hS.2.2 d_Mo_below_78
  exact (key n0).1 hP hD hS hl h0
noncomputable def bk_Mo_types_0 : List Int32 → List Int64 → tq_S → Option tq_C
  | [], [], σ => tq_ob (tq_fV st_Mo_work (0, [], [], σ)) (fun _ σ3 => some (8, [0, 0], [], σ3))
  | _, _, _ => none
noncomputable def bk_Mo_types_8 : List Int32 → List Int64 → tq_S → Option tq_C
  | [x1, x2], [], σ => tq_ob (tq_fI st_Mo_size (0, [], [], σ)) (fun r5 σ6 => if r5 ≤ x2 then some (tq_rt, [x1], [], σ6) else tq_gd x2 1024 (if ¬ (ia σ6 31 x2) = 0 then tq_lj (x1 + 0) (fun v10 => tq_lj (x2 + 1) (fun v11 => some (8, [v10, v11], [], σ6))) else tq_lj (x1 + 1) (fun v12 => tq_lj (x2 + 1) (fun v13 => some (8, [v12, v13], [], σ6)))))
  | _, _, _ => none
noncomputable def st_Mo_types (c : tq_C) : Option tq_C := if c.1 = 0 then bk_Mo_types_0 c.2.1 c.2.2.1 c.2.2.2 else if c.1 = 8 then bk_Mo_types_8 c.2.1 c.2.2.1 c.2.2.2 else none
set_option maxHeartbeats 40000000 in
set_option maxRecDepth 100000 in
theorem c_Mo_types (l : Launch) (dC : Nat → ClassId) (dI : Nat → Nat → Nat) (cI cL cZ : ClassId) (ad : Nat → Nat) (tt : Nat) (sz : Nat) (σ : tq_S) (r : Int32) (σ' : tq_S) (hf : tq_fI st_Mo_types (0, [], [], σ) = some (r, σ')) : Met l y_Mo_types w_Mo_types ({ frames := 4, cells := 0, slots := 0, locals := 92 } : Room) (va_Pc [.ref (ad 5)] (tq_B dC dI cI cL cZ tt (wo cI cL cZ ad σ) sz)) (va_Qi (fun (r' : Int32) (u : tq_S) => r' = r ∧ u = σ') (tq_E dC dI cI cL cZ (wo cI cL cZ ad) (va_A (wo cI cL cZ ad σ) sz)) (va_A (wo cI cL cZ ad σ) sz)) 0 0 (va_A (wo cI cL cZ ad σ) sz) := by
  obtain ⟨n0, h0⟩ := tq_fI_to hf
  refine Met.ofW (cc := prog_7_method_26_code) (maxL := 3) (ret := (some .int)) (by decide) rfl ?_
  intro p e s m args below meth c s₁ B hml hv
  obtain ⟨rfl, hsz, hP, hK, hD0, hZ, hN⟩ := hv
  have hx := B.exec
  have hb := B.bytes
  have hr := B.returns
  have hts : ∀ w ∈ tq_T, w.before _ s = true := fun w h => atoms_spec (ws := w_Mo_types) B.pre w (List.mem_cons_of_mem _ h)
  have hown : s.vm.findClass "TableauNodesModel" = some m.cls := findClass_of_methodNamed B.named
  have hlocks := B.notSynchronized
  subst hsz
  have hD := hD0.self (sz := s.heap.size)
  have hS : va_S (va_A (wo cI cL cZ ad σ) s.heap.size) s.heap s.heap [] := va_S.rf
  have hA : ∀ q : Nat, s.heap.size ≤ q → va_A (wo cI cL cZ ad σ) s.heap.size q := fun q h => Or.inr h
  generalize va_A (wo cI cL cZ ad σ) s.heap.size = A at hD hS hA hZ ⊢
  have hl := lv_entry ([.ref (ad 5)]) (n := 3) (Nat.le_of_ble_eq_true rfl)
  rw [lg_entry_eq]
  generalize (lg_sl ([.ref (ad 5)]) ++ List.replicate (3 - (lg_sl ([.ref (ad 5)])).length) Slot.unset).toArray = ls at hl ⊢
  have hl : lv_has ls 3 [(0, .ref (ad 5))] := hl
  have key : ∀ n : Nat, (∀ {σ : tq_S} {H : Heap} {locs : List Loc} {ls : Array Slot}, va_P (dC, dI) tq_cl (wo cI cL cZ ad σ) H → va_D A (wo cI cL cZ ad σ) → va_S A s.heap H locs → lv_has ls 3 [(0, .ref (ad 5))] → tq_go st_Mo_types n (0, [], [], σ) = some (tq_rt, [r], [], σ') → W p l e (headSpec w_Mo_types ({ frames := 4, cells := 0, slots := 0, locals := 92 } : Room)).room s m ([.ref (ad 5)] : List Value).toArray below meth c H locs 0 0 (MQ below (va_Qi (fun (r' : Int32) (u : tq_S) => r' = r ∧ u = σ') (tq_E dC dI cI cL cZ (wo cI cL cZ ad) A) A) ([.ref (ad 5)] : List Value).toArray s 0 0 A) (F0 m 0 ls [])) ∧ (∀ {x1 x2 : Int32} {σ : tq_S} {H : Heap} {locs : List Loc} {ls : Array Slot}, va_P (dC, dI) tq_cl (wo cI cL cZ ad σ) H → va_D A (wo cI cL cZ ad σ) → va_S A s.heap H locs → lv_has ls 3 [(0, .ref (ad 5)), (1, .int x1), (2, .int x2)] → tq_go st_Mo_types n (8, [x1, x2], [], σ) = some (tq_rt, [r], [], σ') → W p l e (headSpec w_Mo_types ({ frames := 4, cells := 0, slots := 0, locals := 92 } : Room)).room s m ([.ref (ad 5)] : List Value).toArray below meth c H locs 0 0 (MQ below (va_Qi (fun (r' : Int32) (u : tq_S) => r' = r ∧ u = σ') (tq_E dC dI cI cL cZ (wo cI cL cZ ad) A) A) ([.ref (ad 5)] : List Value).toArray s 0 0 A) (F0 m 8 ls [])) := by
    intro n
    induction n with
    | zero => exact ⟨(fun _ _ _ _ h => by cases h), (fun _ _ _ _ h => by cases h)⟩
    | succ n ih =>
      refine ⟨?_, ?_⟩
      · intro  σ H locs ls hP hD hS hl h9
        obtain ⟨q9, hg, hn⟩ := tq_go_s h9 (show ¬ (0 : Nat) = tq_rt by decide)
        replace hg : bk_Mo_types_0 [] [] σ = some q9 := hg
        unfold bk_Mo_types_0 at hg
        refine lv_aload_n hx hb d_Mo_types_0 rfl (lv_at hl 0 rfl) ?_
        obtain ⟨⟨⟩, σ3, f1, hg⟩ := tq_ob_s hg
        refine tq_aV (va_runV (As := []) (rest := []) ⟨hx, hb, hml, hown, hts⟩ (c_Mo_work l dC dI cI cL cZ ad tt H.size σ    σ3 f1) (cwV 0 hts (tq_gV tw_727 tw_729 ts_35 tw_6 tw_730) rfl rfl rfl (by decide +kernel) ⟨Nat.le_of_ble_eq_true rfl, Nat.le_of_ble_eq_true rfl⟩) ⟨tq_bl, va_recv hK hP (ci := 5) (q0 := 5) rfl rfl, (tq_pr hP hK hD hS hA hZ hN)⟩ rfl rfl hl.1 rfl (lv_room (Nat.le_of_ble_eq_true rfl)) d_Mo_types_1 ⟨Nat.zero_le _, Nat.zero_le _⟩) hD hS hA (fun H locs hP hD hS => ?_)
        refine lv_iconst (v := 0) hx hb d_Mo_types_4 (by decide) ?_
        refine lv_istore_n (lv' := [(1, .int 0), (0, .ref (ad 5))]) hx hb d_Mo_types_5 rfl hl (by decide) rfl (fun ls hl => ?_)
        refine lv_iconst (v := 0) hx hb d_Mo_types_6 (by decide) ?_
        refine lv_istore_n (lv' := [(2, .int 0), (1, .int 0), (0, .ref (ad 5))]) hx hb d_Mo_types_7 rfl hl (by decide) rfl (fun ls hl => ?_)
        exact ih.2 hP hD hS (lv_sub hl [2, 1, 0] rfl) (tq_gi hg hn)
      · intro x1 x2 σ H locs ls hP hD hS hl h9
        obtain ⟨q9, hg, hn⟩ := tq_go_s h9 (show ¬ (8 : Nat) = tq_rt by decide)
        replace hg : bk_Mo_types_8 [x1, x2] [] σ = some q9 := hg
        unfold bk_Mo_types_8 at hg
        refine lv_iload_n hx hb d_Mo_types_8 rfl (lv_at hl 2 rfl) ?_
        refine lv_aload_n hx hb d_Mo_types_9 rfl (lv_at hl 0 rfl) ?_
        obtain ⟨r5, σ6, f4, hg⟩ := tq_ob_s hg
        refine tq_aI (va_runV (As := []) (rest := [.int x2]) ⟨hx, hb, hml, hown, hts⟩ (c_Mo_size l dC dI cI cL cZ ad tt H.size σ   r5 σ6 f4) (cwV 0 hts (tq_gV tw_731 tw_733 ts_36 tw_6 tw_734) rfl rfl rfl (by decide +kernel) ⟨Nat.le_of_ble_eq_true rfl, Nat.le_of_ble_eq_true rfl⟩) ⟨tq_bl, va_recv hK hP (ci := 5) (q0 := 5) rfl rfl, (tq_pr hP hK hD hS hA hZ hN)⟩ rfl rfl hl.1 rfl (lv_room (Nat.le_of_ble_eq_true rfl)) d_Mo_types_10 ⟨Nat.zero_le _, Nat.zero_le _⟩) hD hS hA (fun H locs hP hD hS => ?_)
        refine lv_icmp_ge (tgt := 39) hx hb d_Mo_types_13 (by decide) (fun c7 => ?_) (fun c7 => ?_)
        · replace hg := tq_if_t c7 hg
          refine lv_iload_n hx hb d_Mo_types_39 rfl (lv_at hl 1 rfl) ?_
          exact W.iret (v := x1) hx hb hr (fun t ht hW => ⟨⟨x1, σ6, rfl, tq_grI hg hn, by rw [ht]; exact hP, va_K.moved hW.alike hK, hD⟩, hS.F ht⟩) hS.2.2 d_Mo_types_40
        · replace hg := tq_if_f c7 hg
          refine lv_iload_n hx hb d_Mo_types_16 rfl (lv_at hl 1 rfl) ?_
          refine lv_aload_n hx hb d_Mo_types_17 rfl (lv_at hl 0 rfl) ?_
          refine va_get (D := (dC, dI)) (ci := 5) (v := .ref (ad 44)) (C := "TableauNodesModel") (T := F_Mo) (N := 25) hx hb hts in_Mo hown hK hP 5 rfl rfl 20 (by decide) (hts _ tw_619) (fun _ h9 => h9) rfl d_Mo_types_18 ?_
          refine lv_iload_n hx hb d_Mo_types_21 rfl (lv_at hl 2 rfl) ?_
          obtain ⟨g8, hg⟩ := tq_gd_s hg
          refine va_iald hx hb hK hP 44 0 rfl rfl g8 d_Mo_types_22 ?_
          refine lv_if_ne (tgt := 30) hx hb d_Mo_types_23 (by decide) (fun c9 => ?_) (fun c9 => ?_)
          · replace hg := tq_if_t c9 hg
            refine lv_iconst (v := 0) hx hb d_Mo_types_30 (by decide) ?_
            refine lv_iadd hx hb d_Mo_types_31 ?_
            obtain ⟨v10, ev10, hg⟩ := tq_lj_s hg
            refine tq_nmi ev10 ?_
            refine lv_istore_n (lv' := [(1, .int v10), (0, .ref (ad 5)), (2, .int x2)]) hx hb d_Mo_types_32 rfl hl (by decide) rfl (fun ls hl => ?_)
            obtain ⟨v11, ev11, hg⟩ := tq_lj_s hg
            refine lv_iinc (v := v11) (lv' := [(2, .int v11), (1, .int v10), (0, .ref (ad 5))]) hx hb d_Mo_types_33 hl (k := 2) rfl (by rw [ev11]; rfl) (by decide) rfl (fun ls hl => ?_)
            refine lv_goto (tgt := 8) hx hb d_Mo_types_36 (by decide) ?_
            exact ih.2 hP hD hS (lv_sub hl [2, 1, 0] rfl) (tq_gi hg hn)
          · replace hg := tq_if_n c9 hg
            refine lv_iconst (v := 1) hx hb d_Mo_types_26 (by decide) ?_
            refine lv_goto (tgt := 31) hx hb d_Mo_types_27 (by decide) ?_
            refine lv_iadd hx hb d_Mo_types_31 ?_
            obtain ⟨v12, ev12, hg⟩ := tq_lj_s hg
            refine tq_nmi ev12 ?_
            refine lv_istore_n (lv' := [(1, .int v12), (0, .ref (ad 5)), (2, .int x2)]) hx hb d_Mo_types_32 rfl hl (by decide) rfl (fun ls hl => ?_)
            obtain ⟨v13, ev13, hg⟩ := tq_lj_s hg
            refine lv_iinc (v := v13) (lv' := [(2, .int v13), (1, .int v12), (0, .ref (ad 5))]) hx hb d_Mo_types_33 hl (k := 2) rfl (by rw [ev13]; rfl) (by decide) rfl (fun ls hl => ?_)
            refine lv_goto (tgt := 8) hx hb d_Mo_types_36 (by decide) ?_
            exact ih.2 hP hD hS (lv_sub hl [2, 1, 0] rfl) (tq_gi hg hn)
  exact (key n0).1 hP hD hS hl h0
noncomputable def bk_Mo_rounds_0 : List Int32 → List Int64 → tq_S → Option tq_C
  | [], [], σ => tq_ob (tq_fV st_Mo_work (0, [], [], σ)) (fun _ σ3 => some (tq_rt, [(σ3.2.2 19)], [], σ3))
  | _, _, _ => none
noncomputable def st_Mo_rounds (c : tq_C) : Option tq_C := if c.1 = 0 then bk_Mo_rounds_0 c.2.1 c.2.2.1 c.2.2.2 else none
set_option maxHeartbeats 40000000 in
set_option maxRecDepth 100000 in
theorem c_Mo_rounds (l : Launch) (dC : Nat → ClassId) (dI : Nat → Nat → Nat) (cI cL cZ : ClassId) (ad : Nat → Nat) (tt : Nat) (sz : Nat) (σ : tq_S) (r : Int32) (σ' : tq_S) (hf : tq_fI st_Mo_rounds (0, [], [], σ) = some (r, σ')) : Met l y_Mo_rounds w_Mo_rounds ({ frames := 4, cells := 0, slots := 0, locals := 92 } : Room) (va_Pc [.ref (ad 5)] (tq_B dC dI cI cL cZ tt (wo cI cL cZ ad σ) sz)) (va_Qi (fun (r' : Int32) (u : tq_S) => r' = r ∧ u = σ') (tq_E dC dI cI cL cZ (wo cI cL cZ ad) (va_A (wo cI cL cZ ad σ) sz)) (va_A (wo cI cL cZ ad σ) sz)) 0 0 (va_A (wo cI cL cZ ad σ) sz) := by
  obtain ⟨n0, h0⟩ := tq_fI_to hf
  refine Met.ofW (cc := prog_7_method_27_code) (maxL := 1) (ret := (some .int)) (by decide) rfl ?_
  intro p e s m args below meth c s₁ B hml hv
  obtain ⟨rfl, hsz, hP, hK, hD0, hZ, hN⟩ := hv
  have hx := B.exec
  have hb := B.bytes
  have hr := B.returns
  have hts : ∀ w ∈ tq_T, w.before _ s = true := fun w h => atoms_spec (ws := w_Mo_rounds) B.pre w (List.mem_cons_of_mem _ h)
  have hown : s.vm.findClass "TableauNodesModel" = some m.cls := findClass_of_methodNamed B.named
  have hlocks := B.notSynchronized
  subst hsz
  have hD := hD0.self (sz := s.heap.size)
  have hS : va_S (va_A (wo cI cL cZ ad σ) s.heap.size) s.heap s.heap [] := va_S.rf
  have hA : ∀ q : Nat, s.heap.size ≤ q → va_A (wo cI cL cZ ad σ) s.heap.size q := fun q h => Or.inr h
  generalize va_A (wo cI cL cZ ad σ) s.heap.size = A at hD hS hA hZ ⊢
  have hl := lv_entry ([.ref (ad 5)]) (n := 1) (Nat.le_of_ble_eq_true rfl)
  rw [lg_entry_eq]
  generalize (lg_sl ([.ref (ad 5)]) ++ List.replicate (1 - (lg_sl ([.ref (ad 5)])).length) Slot.unset).toArray = ls at hl ⊢
  have hl : lv_has ls 1 [(0, .ref (ad 5))] := hl
  have key : ∀ n : Nat, (∀ {σ : tq_S} {H : Heap} {locs : List Loc} {ls : Array Slot}, va_P (dC, dI) tq_cl (wo cI cL cZ ad σ) H → va_D A (wo cI cL cZ ad σ) → va_S A s.heap H locs → lv_has ls 1 [(0, .ref (ad 5))] → tq_go st_Mo_rounds n (0, [], [], σ) = some (tq_rt, [r], [], σ') → W p l e (headSpec w_Mo_rounds ({ frames := 4, cells := 0, slots := 0, locals := 92 } : Room)).room s m ([.ref (ad 5)] : List Value).toArray below meth c H locs 0 0 (MQ below (va_Qi (fun (r' : Int32) (u : tq_S) => r' = r ∧ u = σ') (tq_E dC dI cI cL cZ (wo cI cL cZ ad) A) A) ([.ref (ad 5)] : List Value).toArray s 0 0 A) (F0 m 0 ls [])) := by
    intro n
    induction n with
    | zero => exact fun _ _ _ _ h => by cases h
    | succ n ih =>
      intro  σ H locs ls hP hD hS hl h9
      obtain ⟨q9, hg, hn⟩ := tq_go_s h9 (show ¬ (0 : Nat) = tq_rt by decide)
      replace hg : bk_Mo_rounds_0 [] [] σ = some q9 := hg
      unfold bk_Mo_rounds_0 at hg
      refine lv_aload_n hx hb d_Mo_rounds_0 rfl (lv_at hl 0 rfl) ?_
      obtain ⟨⟨⟩, σ3, f1, hg⟩ := tq_ob_s hg
      refine tq_aV (va_runV (As := []) (rest := []) ⟨hx, hb, hml, hown, hts⟩ (c_Mo_work l dC dI cI cL cZ ad tt H.size σ    σ3 f1) (cwV 0 hts (tq_gV tw_727 tw_729 ts_35 tw_6 tw_730) rfl rfl rfl (by decide +kernel) ⟨Nat.le_of_ble_eq_true rfl, Nat.le_of_ble_eq_true rfl⟩) ⟨tq_bl, va_recv hK hP (ci := 5) (q0 := 5) rfl rfl, (tq_pr hP hK hD hS hA hZ hN)⟩ rfl rfl hl.1 rfl (lv_room (Nat.le_of_ble_eq_true rfl)) d_Mo_rounds_1 ⟨Nat.zero_le _, Nat.zero_le _⟩) hD hS hA (fun H locs hP hD hS => ?_)
      refine lv_aload_n hx hb d_Mo_rounds_4 rfl (lv_at hl 0 rfl) ?_
      refine va_get (D := (dC, dI)) (ci := 5) (v := .int (σ3.2.2 19)) (C := "TableauNodesModel") (T := F_Mo) (N := 25) hx hb hts in_Mo hown hK hP 5 rfl rfl 22 (by decide) (hts _ tw_621) (fun _ h9 => h9) rfl d_Mo_rounds_5 ?_
      exact W.iret (v := (σ3.2.2 19)) hx hb hr (fun t ht hW => ⟨⟨(σ3.2.2 19), σ3, rfl, tq_grI hg hn, by rw [ht]; exact hP, va_K.moved hW.alike hK, hD⟩, hS.F ht⟩) hS.2.2 d_Mo_rounds_8
  exact (key n0) hP hD hS hl h0
noncomputable def bk_Mo_depth_0 : List Int32 → List Int64 → tq_S → Option tq_C
  | [x1], [], σ => tq_ob (tq_fV st_Mo_work (0, [], [], σ)) (fun _ σ3 => if x1 < 0 then some (tq_rt, [(-1)], [], σ3) else tq_ob (tq_fI st_Mo_size (0, [], [], σ3)) (fun r6 σ7 => if r6 ≤ x1 then some (tq_rt, [(-1)], [], σ7) else tq_gd x1 1024 (some (tq_rt, [(ia σ7 31 x1)], [], σ7))))
  | _, _, _ => none
noncomputable def st_Mo_depth (c : tq_C) : Option tq_C := if c.1 = 0 then bk_Mo_depth_0 c.2.1 c.2.2.1 c.2.2.2 else none
set_option maxHeartbeats 40000000 in
set_option maxRecDepth 100000 in
theorem c_Mo_depth (l : Launch) (dC : Nat → ClassId) (dI : Nat → Nat → Nat) (cI cL cZ : ClassId) (ad : Nat → Nat) (tt : Nat) (sz : Nat) (σ : tq_S) (a1 : Int32) (r : Int32) (σ' : tq_S) (hf : tq_fI st_Mo_depth (0, [a1], [], σ) = some (r, σ')) : Met l y_Mo_depth w_Mo_depth ({ frames := 4, cells := 0, slots := 0, locals := 92 } : Room) (va_Pc [.ref (ad 5), .int a1] (tq_B dC dI cI cL cZ tt (wo cI cL cZ ad σ) sz)) (va_Qi (fun (r' : Int32) (u : tq_S) => r' = r ∧ u = σ') (tq_E dC dI cI cL cZ (wo cI cL cZ ad) (va_A (wo cI cL cZ ad σ) sz)) (va_A (wo cI cL cZ ad σ) sz)) 0 0 (va_A (wo cI cL cZ ad σ) sz) := by
  obtain ⟨n0, h0⟩ := tq_fI_to hf
  refine Met.ofW (cc := prog_7_method_28_code) (maxL := 2) (ret := (some .int)) (by decide) rfl ?_
  intro p e s m args below meth c s₁ B hml hv
  obtain ⟨rfl, hsz, hP, hK, hD0, hZ, hN⟩ := hv
  have hx := B.exec
  have hb := B.bytes
  have hr := B.returns
  have hts : ∀ w ∈ tq_T, w.before _ s = true := fun w h => atoms_spec (ws := w_Mo_depth) B.pre w (List.mem_cons_of_mem _ h)
  have hown : s.vm.findClass "TableauNodesModel" = some m.cls := findClass_of_methodNamed B.named
  have hlocks := B.notSynchronized
  subst hsz
  have hD := hD0.self (sz := s.heap.size)
  have hS : va_S (va_A (wo cI cL cZ ad σ) s.heap.size) s.heap s.heap [] := va_S.rf
  have hA : ∀ q : Nat, s.heap.size ≤ q → va_A (wo cI cL cZ ad σ) s.heap.size q := fun q h => Or.inr h
  generalize va_A (wo cI cL cZ ad σ) s.heap.size = A at hD hS hA hZ ⊢
  have hl := lv_entry ([.ref (ad 5), .int a1]) (n := 2) (Nat.le_of_ble_eq_true rfl)
  rw [lg_entry_eq]
  generalize (lg_sl ([.ref (ad 5), .int a1]) ++ List.replicate (2 - (lg_sl ([.ref (ad 5), .int a1])).length) Slot.unset).toArray = ls at hl ⊢
  have hl : lv_has ls 2 [(0, .ref (ad 5)), (1, .int a1)] := hl
  have key : ∀ n : Nat, (∀ {x1 : Int32} {σ : tq_S} {H : Heap} {locs : List Loc} {ls : Array Slot}, va_P (dC, dI) tq_cl (wo cI cL cZ ad σ) H → va_D A (wo cI cL cZ ad σ) → va_S A s.heap H locs → lv_has ls 2 [(0, .ref (ad 5)), (1, .int x1)] → tq_go st_Mo_depth n (0, [x1], [], σ) = some (tq_rt, [r], [], σ') → W p l e (headSpec w_Mo_depth ({ frames := 4, cells := 0, slots := 0, locals := 92 } : Room)).room s m ([.ref (ad 5), .int a1] : List Value).toArray below meth c H locs 0 0 (MQ below (va_Qi (fun (r' : Int32) (u : tq_S) => r' = r ∧ u = σ') (tq_E dC dI cI cL cZ (wo cI cL cZ ad) A) A) ([.ref (ad 5), .int a1] : List Value).toArray s 0 0 A) (F0 m 0 ls [])) := by
    intro n
    induction n with
    | zero => exact fun _ _ _ _ h => by cases h
    | succ n ih =>
      intro x1 σ H locs ls hP hD hS hl h9
      obtain ⟨q9, hg, hn⟩ := tq_go_s h9 (show ¬ (0 : Nat) = tq_rt by decide)
      replace hg : bk_Mo_depth_0 [x1] [] σ = some q9 := hg
      unfold bk_Mo_depth_0 at hg
      refine lv_aload_n hx hb d_Mo_depth_0 rfl (lv_at hl 0 rfl) ?_
      obtain ⟨⟨⟩, σ3, f1, hg⟩ := tq_ob_s hg
      refine tq_aV (va_runV (As := []) (rest := []) ⟨hx, hb, hml, hown, hts⟩ (c_Mo_work l dC dI cI cL cZ ad tt H.size σ    σ3 f1) (cwV 0 hts (tq_gV tw_727 tw_729 ts_35 tw_6 tw_730) rfl rfl rfl (by decide +kernel) ⟨Nat.le_of_ble_eq_true rfl, Nat.le_of_ble_eq_true rfl⟩) ⟨tq_bl, va_recv hK hP (ci := 5) (q0 := 5) rfl rfl, (tq_pr hP hK hD hS hA hZ hN)⟩ rfl rfl hl.1 rfl (lv_room (Nat.le_of_ble_eq_true rfl)) d_Mo_depth_1 ⟨Nat.zero_le _, Nat.zero_le _⟩) hD hS hA (fun H locs hP hD hS => ?_)
      refine lv_iload_n hx hb d_Mo_depth_4 rfl (lv_at hl 1 rfl) ?_
      refine lv_if_lt (tgt := 25) hx hb d_Mo_depth_5 (by decide) (fun c4 => ?_) (fun c4 => ?_)
      · replace hg := tq_if_t c4 hg
        refine lv_iconst (v := (-1)) hx hb d_Mo_depth_25 (by decide) ?_
        exact W.iret (v := (-1)) hx hb hr (fun t ht hW => ⟨⟨(-1), σ3, rfl, tq_grI hg hn, by rw [ht]; exact hP, va_K.moved hW.alike hK, hD⟩, hS.F ht⟩) hS.2.2 d_Mo_depth_26
      · replace hg := tq_if_f c4 hg
        refine lv_iload_n hx hb d_Mo_depth_8 rfl (lv_at hl 1 rfl) ?_
        refine lv_aload_n hx hb d_Mo_depth_9 rfl (lv_at hl 0 rfl) ?_
        obtain ⟨r6, σ7, f5, hg⟩ := tq_ob_s hg
        refine tq_aI (va_runV (As := []) (rest := [.int x1]) ⟨hx, hb, hml, hown, hts⟩ (c_Mo_size l dC dI cI cL cZ ad tt H.size σ3   r6 σ7 f5) (cwV 0 hts (tq_gV tw_731 tw_733 ts_36 tw_6 tw_734) rfl rfl rfl (by decide +kernel) ⟨Nat.le_of_ble_eq_true rfl, Nat.le_of_ble_eq_true rfl⟩) ⟨tq_bl, va_recv hK hP (ci := 5) (q0 := 5) rfl rfl, (tq_pr hP hK hD hS hA hZ hN)⟩ rfl rfl hl.1 rfl (lv_room (Nat.le_of_ble_eq_true rfl)) d_Mo_depth_10 ⟨Nat.zero_le _, Nat.zero_le _⟩) hD hS hA (fun H locs hP hD hS => ?_)
        refine lv_icmp_ge (tgt := 25) hx hb d_Mo_depth_13 (by decide) (fun c8 => ?_) (fun c8 => ?_)
        · replace hg := tq_if_t c8 hg
          refine lv_iconst (v := (-1)) hx hb d_Mo_depth_25 (by decide) ?_
          exact W.iret (v := (-1)) hx hb hr (fun t ht hW => ⟨⟨(-1), σ7, rfl, tq_grI hg hn, by rw [ht]; exact hP, va_K.moved hW.alike hK, hD⟩, hS.F ht⟩) hS.2.2 d_Mo_depth_26
        · replace hg := tq_if_f c8 hg
          refine lv_aload_n hx hb d_Mo_depth_16 rfl (lv_at hl 0 rfl) ?_
          refine va_get (D := (dC, dI)) (ci := 5) (v := .ref (ad 44)) (C := "TableauNodesModel") (T := F_Mo) (N := 25) hx hb hts in_Mo hown hK hP 5 rfl rfl 20 (by decide) (hts _ tw_619) (fun _ h9 => h9) rfl d_Mo_depth_17 ?_
          refine lv_iload_n hx hb d_Mo_depth_20 rfl (lv_at hl 1 rfl) ?_
          obtain ⟨g9, hg⟩ := tq_gd_s hg
          refine va_iald hx hb hK hP 44 0 rfl rfl g9 d_Mo_depth_21 ?_
          refine lv_goto (tgt := 26) hx hb d_Mo_depth_22 (by decide) ?_
          exact W.iret (v := (ia σ7 31 x1)) hx hb hr (fun t ht hW => ⟨⟨(ia σ7 31 x1), σ7, rfl, tq_grI hg hn, by rw [ht]; exact hP, va_K.moved hW.alike hK, hD⟩, hS.F ht⟩) hS.2.2 d_Mo_depth_26
  exact (key n0) hP hD hS hl h0
noncomputable def bk_Mo_individual_0 : List Int32 → List Int64 → tq_S → Option tq_C
  | [x1, x2], [], σ => tq_ob (tq_fI st_Mo_isThing (0, [x1], [], σ)) (fun r2 σ3 => if r2 = 0 then some (tq_rt, [(-1)], [], σ3) else tq_ob (tq_fI st_Mo_isConcept (0, [x2], [], σ3)) (fun r6 σ7 => if ¬ r6 = 0 then if ¬ (σ7.2.2 16) = 40 then tq_gd (σ7.2.2 16) 40 (tq_lj (iput σ7 24 (σ7.2.2 16).toNatClampNeg x1) (fun σ11 => tq_gd (σ11.2.2 16) 40 (tq_lj (iput σ11 25 (σ11.2.2 16).toNatClampNeg x2) (fun σ13 => tq_lj (fput σ13 16 ((σ13.2.2 16) + 1)) (fun σ14 => some (tq_rt, [(σ14.2.2 16)], [], σ14)))))) else some (tq_rt, [(-3)], [], σ7) else some (tq_rt, [(-1)], [], σ7)))
  | _, _, _ => none
noncomputable def st_Mo_individual (c : tq_C) : Option tq_C := if c.1 = 0 then bk_Mo_individual_0 c.2.1 c.2.2.1 c.2.2.2 else none
set_option maxHeartbeats 40000000 in
set_option maxRecDepth 100000 in
theorem c_Mo_individual (l : Launch) (dC : Nat → ClassId) (dI : Nat → Nat → Nat) (cI cL cZ : ClassId) (ad : Nat → Nat) (tt : Nat) (sz : Nat) (σ : tq_S) (a1 : Int32) (a2 : Int32) (r : Int32) (σ' : tq_S) (hf : tq_fI st_Mo_individual (0, [a1, a2], [], σ) = some (r, σ')) : Met l y_Mo_individual w_Mo_individual ({ frames := 1, cells := 0, slots := 0, locals := 21 } : Room) (va_Pc [.ref (ad 5), .int a1, .int a2] (tq_B dC dI cI cL cZ tt (wo cI cL cZ ad σ) sz)) (va_Qi (fun (r' : Int32) (u : tq_S) => r' = r ∧ u = σ') (tq_E dC dI cI cL cZ (wo cI cL cZ ad) (va_A (wo cI cL cZ ad σ) sz)) (va_A (wo cI cL cZ ad σ) sz)) 0 0 (va_A (wo cI cL cZ ad σ) sz) := by
  obtain ⟨n0, h0⟩ := tq_fI_to hf
  refine Met.ofW (cc := prog_7_method_29_code) (maxL := 3) (ret := (some .int)) (by decide) rfl ?_
  intro p e s m args below meth c s₁ B hml hv
  obtain ⟨rfl, hsz, hP, hK, hD0, hZ, hN⟩ := hv
  have hx := B.exec
  have hb := B.bytes
  have hr := B.returns
  have hts : ∀ w ∈ tq_T, w.before _ s = true := fun w h => atoms_spec (ws := w_Mo_individual) B.pre w (List.mem_cons_of_mem _ h)
  have hown : s.vm.findClass "TableauNodesModel" = some m.cls := findClass_of_methodNamed B.named
  have hlocks := B.notSynchronized
  subst hsz
  have hD := hD0.self (sz := s.heap.size)
  have hS : va_S (va_A (wo cI cL cZ ad σ) s.heap.size) s.heap s.heap [] := va_S.rf
  have hA : ∀ q : Nat, s.heap.size ≤ q → va_A (wo cI cL cZ ad σ) s.heap.size q := fun q h => Or.inr h
  generalize va_A (wo cI cL cZ ad σ) s.heap.size = A at hD hS hA hZ ⊢
  have hl := lv_entry ([.ref (ad 5), .int a1, .int a2]) (n := 3) (Nat.le_of_ble_eq_true rfl)
  rw [lg_entry_eq]
  generalize (lg_sl ([.ref (ad 5), .int a1, .int a2]) ++ List.replicate (3 - (lg_sl ([.ref (ad 5), .int a1, .int a2])).length) Slot.unset).toArray = ls at hl ⊢
  have hl : lv_has ls 3 [(0, .ref (ad 5)), (1, .int a1), (2, .int a2)] := hl
  have key : ∀ n : Nat, (∀ {x1 x2 : Int32} {σ : tq_S} {H : Heap} {locs : List Loc} {ls : Array Slot}, va_P (dC, dI) tq_cl (wo cI cL cZ ad σ) H → va_D A (wo cI cL cZ ad σ) → va_S A s.heap H locs → lv_has ls 3 [(0, .ref (ad 5)), (1, .int x1), (2, .int x2)] → tq_go st_Mo_individual n (0, [x1, x2], [], σ) = some (tq_rt, [r], [], σ') → W p l e (headSpec w_Mo_individual ({ frames := 1, cells := 0, slots := 0, locals := 21 } : Room)).room s m ([.ref (ad 5), .int a1, .int a2] : List Value).toArray below meth c H locs 0 0 (MQ below (va_Qi (fun (r' : Int32) (u : tq_S) => r' = r ∧ u = σ') (tq_E dC dI cI cL cZ (wo cI cL cZ ad) A) A) ([.ref (ad 5), .int a1, .int a2] : List Value).toArray s 0 0 A) (F0 m 0 ls [])) := by
    intro n
    induction n with
    | zero => exact fun _ _ _ _ h => by cases h
    | succ n ih =>
      intro x1 x2 σ H locs ls hP hD hS hl h9
      obtain ⟨q9, hg, hn⟩ := tq_go_s h9 (show ¬ (0 : Nat) = tq_rt by decide)
      replace hg : bk_Mo_individual_0 [x1, x2] [] σ = some q9 := hg
      unfold bk_Mo_individual_0 at hg
      refine lv_iload_n hx hb d_Mo_individual_0 rfl (lv_at hl 1 rfl) ?_
      obtain ⟨r2, σ3, f1, hg⟩ := tq_ob_s hg
      refine tq_aI (va_runS (As := [.int x1]) (rest := []) ⟨hx, hb, hml, hown, hts⟩ (c_Mo_isThing l dC dI cI cL cZ ad tt H.size σ x1  r2 σ3 f1) (va_cwS 1 hts (tq_gS tw_779 tw_780 tw_6 tw_781) rfl rfl rfl (by decide +kernel) ⟨Nat.le_of_ble_eq_true rfl, Nat.le_of_ble_eq_true rfl⟩) ⟨tq_bl, (tq_pr hP hK hD hS hA hZ hN)⟩ rfl rfl hl.1 rfl (lv_room (Nat.le_of_ble_eq_true rfl)) d_Mo_individual_1 ⟨Nat.zero_le _, Nat.zero_le _⟩) hD hS hA (fun H locs hP hD hS => ?_)
      refine lv_if_eq (tgt := 15) hx hb d_Mo_individual_4 (by decide) (fun c4 => ?_) (fun c4 => ?_)
      · replace hg := tq_if_t c4 hg
        refine lv_iconst (v := (-1)) hx hb d_Mo_individual_15 (by decide) ?_
        exact W.iret (v := (-1)) hx hb hr (fun t ht hW => ⟨⟨(-1), σ3, rfl, tq_grI hg hn, by rw [ht]; exact hP, va_K.moved hW.alike hK, hD⟩, hS.F ht⟩) hS.2.2 d_Mo_individual_16
      · replace hg := tq_if_f c4 hg
        refine lv_aload_n hx hb d_Mo_individual_7 rfl (lv_at hl 0 rfl) ?_
        refine lv_iload_n hx hb d_Mo_individual_8 rfl (lv_at hl 2 rfl) ?_
        obtain ⟨r6, σ7, f5, hg⟩ := tq_ob_s hg
        refine tq_aI (va_runV (As := [.int x2]) (rest := []) ⟨hx, hb, hml, hown, hts⟩ (c_Mo_isConcept l dC dI cI cL cZ ad tt H.size σ3 x2  r6 σ7 f5) (cwV 1 hts (tq_gV tw_692 tw_694 ts_34 tw_6 tw_695) rfl rfl rfl (by decide +kernel) ⟨Nat.le_of_ble_eq_true rfl, Nat.le_of_ble_eq_true rfl⟩) ⟨tq_bl, va_recv hK hP (ci := 5) (q0 := 5) rfl rfl, (tq_pr hP hK hD hS hA hZ hN)⟩ rfl rfl hl.1 rfl (lv_room (Nat.le_of_ble_eq_true rfl)) d_Mo_individual_9 ⟨Nat.zero_le _, Nat.zero_le _⟩) hD hS hA (fun H locs hP hD hS => ?_)
        refine lv_if_ne (tgt := 17) hx hb d_Mo_individual_12 (by decide) (fun c8 => ?_) (fun c8 => ?_)
        · replace hg := tq_if_t c8 hg
          refine lv_aload_n hx hb d_Mo_individual_17 rfl (lv_at hl 0 rfl) ?_
          refine va_get (D := (dC, dI)) (ci := 5) (v := .int (σ7.2.2 16)) (C := "TableauNodesModel") (T := F_Mo) (N := 25) hx hb hts in_Mo hown hK hP 5 rfl rfl 12 (by decide) (hts _ tw_611) (fun _ h9 => h9) rfl d_Mo_individual_18 ?_
          refine lv_bipush (v := 40) hx hb d_Mo_individual_21 (by decide) ?_
          refine lv_icmp_ne (tgt := 29) hx hb d_Mo_individual_23 (by decide) (fun c9 => ?_) (fun c9 => ?_)
          · replace hg := tq_if_t c9 hg
            refine lv_aload_n hx hb d_Mo_individual_29 rfl (lv_at hl 0 rfl) ?_
            refine va_get (D := (dC, dI)) (ci := 5) (v := .ref (ad 37)) (C := "TableauNodesModel") (T := F_Mo) (N := 25) hx hb hts in_Mo hown hK hP 5 rfl rfl 10 (by decide) (hts _ tw_609) (fun _ h9 => h9) rfl d_Mo_individual_30 ?_
            refine lv_aload_n hx hb d_Mo_individual_33 rfl (lv_at hl 0 rfl) ?_
            refine va_get (D := (dC, dI)) (ci := 5) (v := .int (σ7.2.2 16)) (C := "TableauNodesModel") (T := F_Mo) (N := 25) hx hb hts in_Mo hown hK hP 5 rfl rfl 12 (by decide) (hts _ tw_611) (fun _ h9 => h9) rfl d_Mo_individual_34 ?_
            refine lv_iload_n hx hb d_Mo_individual_37 rfl (lv_at hl 1 rfl) ?_
            obtain ⟨g10, hg⟩ := tq_gd_s hg
            refine va_iast hx hb hK hP hD hS 37 0 rfl rfl g10 d_Mo_individual_38 (fun H locs hP hD hS => ?_)
            obtain ⟨σ11, eσ11, hg⟩ := tq_lj_s hg
            replace hP : va_P (dC, dI) tq_cl (wo cI cL cZ ad σ11) H := by rw [eσ11, ← ws_i24]; exact hP
            replace hD : va_D A (wo cI cL cZ ad σ11) := by rw [eσ11, ← ws_i24]; exact hD
            refine lv_aload_n hx hb d_Mo_individual_39 rfl (lv_at hl 0 rfl) ?_
            refine va_get (D := (dC, dI)) (ci := 5) (v := .ref (ad 38)) (C := "TableauNodesModel") (T := F_Mo) (N := 25) hx hb hts in_Mo hown hK hP 5 rfl rfl 11 (by decide) (hts _ tw_610) (fun _ h9 => h9) rfl d_Mo_individual_40 ?_
            refine lv_aload_n hx hb d_Mo_individual_43 rfl (lv_at hl 0 rfl) ?_
            refine va_get (D := (dC, dI)) (ci := 5) (v := .int (σ11.2.2 16)) (C := "TableauNodesModel") (T := F_Mo) (N := 25) hx hb hts in_Mo hown hK hP 5 rfl rfl 12 (by decide) (hts _ tw_611) (fun _ h9 => h9) rfl d_Mo_individual_44 ?_
            refine lv_iload_n hx hb d_Mo_individual_47 rfl (lv_at hl 2 rfl) ?_
            obtain ⟨g12, hg⟩ := tq_gd_s hg
            refine va_iast hx hb hK hP hD hS 38 0 rfl rfl g12 d_Mo_individual_48 (fun H locs hP hD hS => ?_)
            obtain ⟨σ13, eσ13, hg⟩ := tq_lj_s hg
            replace hP : va_P (dC, dI) tq_cl (wo cI cL cZ ad σ13) H := by rw [eσ13, ← ws_i25]; exact hP
            replace hD : va_D A (wo cI cL cZ ad σ13) := by rw [eσ13, ← ws_i25]; exact hD
            refine lv_aload_n hx hb d_Mo_individual_49 rfl (lv_at hl 0 rfl) ?_
            refine lv_dup hx hb d_Mo_individual_50 rfl ?_
            refine va_get (D := (dC, dI)) (ci := 5) (v := .int (σ13.2.2 16)) (C := "TableauNodesModel") (T := F_Mo) (N := 25) hx hb hts in_Mo hown hK hP 5 rfl rfl 12 (by decide) (hts _ tw_611) (fun _ h9 => h9) rfl d_Mo_individual_51 ?_
            refine lv_iconst (v := 1) hx hb d_Mo_individual_54 (by decide) ?_
            refine lv_iadd hx hb d_Mo_individual_55 ?_
            refine va_put (D := (dC, dI)) (ci := 5) (v := .int ((σ13.2.2 16) + 1)) (ty := .int) (C := "TableauNodesModel") (T := F_Mo) (N := 25) hx hb hts in_Mo ty_Mo tk_Mo nm_Mo hown hK hP hD hS 5 rfl rfl 12 (by decide) (hts _ tw_611) (fun _ h9 => h9) rfl (by decide +kernel) rfl rfl (Nat.le_of_ble_eq_true rfl) d_Mo_individual_56 (fun H locs hP hD hS => ?_)
            obtain ⟨σ14, eσ14, hg⟩ := tq_lj_s hg
            replace hP : va_P (dC, dI) tq_cl (wo cI cL cZ ad σ14) H := by rw [eσ14, ← ws_f16]; exact hP
            replace hD : va_D A (wo cI cL cZ ad σ14) := by rw [eσ14, ← ws_f16]; exact hD
            refine lv_aload_n hx hb d_Mo_individual_59 rfl (lv_at hl 0 rfl) ?_
            refine va_get (D := (dC, dI)) (ci := 5) (v := .int (σ14.2.2 16)) (C := "TableauNodesModel") (T := F_Mo) (N := 25) hx hb hts in_Mo hown hK hP 5 rfl rfl 12 (by decide) (hts _ tw_611) (fun _ h9 => h9) rfl d_Mo_individual_60 ?_
            exact W.iret (v := (σ14.2.2 16)) hx hb hr (fun t ht hW => ⟨⟨(σ14.2.2 16), σ14, rfl, tq_grI hg hn, by rw [ht]; exact hP, va_K.moved hW.alike hK, hD⟩, hS.F ht⟩) hS.2.2 d_Mo_individual_63
          · replace hg := tq_if_n c9 hg
            refine lv_bipush (v := (-3)) hx hb d_Mo_individual_26 (by decide) ?_
            exact W.iret (v := (-3)) hx hb hr (fun t ht hW => ⟨⟨(-3), σ7, rfl, tq_grI hg hn, by rw [ht]; exact hP, va_K.moved hW.alike hK, hD⟩, hS.F ht⟩) hS.2.2 d_Mo_individual_28
        · replace hg := tq_if_n c8 hg
          refine lv_iconst (v := (-1)) hx hb d_Mo_individual_15 (by decide) ?_
          exact W.iret (v := (-1)) hx hb hr (fun t ht hW => ⟨⟨(-1), σ7, rfl, tq_grI hg hn, by rw [ht]; exact hP, va_K.moved hW.alike hK, hD⟩, hS.F ht⟩) hS.2.2 d_Mo_individual_16
  exact (key n0) hP hD hS hl h0
noncomputable def bk_Mo_has_0 : List Int32 → List Int64 → tq_S → Option tq_C
  | [x1, x2, x3], [], σ => tq_ob (tq_fI st_Mo_isThing (0, [x1], [], σ)) (fun r2 σ3 => if r2 = 0 then some (tq_rt, [(-1)], [], σ3) else tq_ob (tq_fI st_Mo_isRole (0, [x2], [], σ3)) (fun r6 σ7 => if r6 = 0 then some (tq_rt, [(-1)], [], σ7) else tq_ob (tq_fI st_Mo_isThing (0, [x3], [], σ7)) (fun r10 σ11 => if ¬ r10 = 0 then if ¬ (σ11.2.2 17) = 40 then tq_gd (σ11.2.2 17) 40 (tq_lj (iput σ11 26 (σ11.2.2 17).toNatClampNeg x1) (fun σ15 => tq_gd (σ15.2.2 17) 40 (tq_lj (iput σ15 27 (σ15.2.2 17).toNatClampNeg x2) (fun σ17 => tq_gd (σ17.2.2 17) 40 (tq_lj (iput σ17 28 (σ17.2.2 17).toNatClampNeg x3) (fun σ19 => tq_lj (fput σ19 17 ((σ19.2.2 17) + 1)) (fun σ20 => some (tq_rt, [(σ20.2.2 17)], [], σ20)))))))) else some (tq_rt, [(-3)], [], σ11) else some (tq_rt, [(-1)], [], σ11))))
  | _, _, _ => none
noncomputable def st_Mo_has (c : tq_C) : Option tq_C := if c.1 = 0 then bk_Mo_has_0 c.2.1 c.2.2.1 c.2.2.2 else none
set_option maxHeartbeats 40000000 in
set_option maxRecDepth 100000 in
theorem c_Mo_has (l : Launch) (dC : Nat → ClassId) (dI : Nat → Nat → Nat) (cI cL cZ : ClassId) (ad : Nat → Nat) (tt : Nat) (sz : Nat) (σ : tq_S) (a1 : Int32) (a2 : Int32) (a3 : Int32) (r : Int32) (σ' : tq_S) (hf : tq_fI st_Mo_has (0, [a1, a2, a3], [], σ) = some (r, σ')) : Met l y_Mo_has w_Mo_has ({ frames := 1, cells := 0, slots := 0, locals := 20 } : Room) (va_Pc [.ref (ad 5), .int a1, .int a2, .int a3] (tq_B dC dI cI cL cZ tt (wo cI cL cZ ad σ) sz)) (va_Qi (fun (r' : Int32) (u : tq_S) => r' = r ∧ u = σ') (tq_E dC dI cI cL cZ (wo cI cL cZ ad) (va_A (wo cI cL cZ ad σ) sz)) (va_A (wo cI cL cZ ad σ) sz)) 0 0 (va_A (wo cI cL cZ ad σ) sz) := by
  obtain ⟨n0, h0⟩ := tq_fI_to hf
  refine Met.ofW (cc := prog_7_method_30_code) (maxL := 4) (ret := (some .int)) (by decide) rfl ?_
  intro p e s m args below meth c s₁ B hml hv
  obtain ⟨rfl, hsz, hP, hK, hD0, hZ, hN⟩ := hv
  have hx := B.exec
  have hb := B.bytes
  have hr := B.returns
  have hts : ∀ w ∈ tq_T, w.before _ s = true := fun w h => atoms_spec (ws := w_Mo_has) B.pre w (List.mem_cons_of_mem _ h)
  have hown : s.vm.findClass "TableauNodesModel" = some m.cls := findClass_of_methodNamed B.named
  have hlocks := B.notSynchronized
  subst hsz
  have hD := hD0.self (sz := s.heap.size)
  have hS : va_S (va_A (wo cI cL cZ ad σ) s.heap.size) s.heap s.heap [] := va_S.rf
  have hA : ∀ q : Nat, s.heap.size ≤ q → va_A (wo cI cL cZ ad σ) s.heap.size q := fun q h => Or.inr h
  generalize va_A (wo cI cL cZ ad σ) s.heap.size = A at hD hS hA hZ ⊢
  have hl := lv_entry ([.ref (ad 5), .int a1, .int a2, .int a3]) (n := 4) (Nat.le_of_ble_eq_true rfl)
  rw [lg_entry_eq]
  generalize (lg_sl ([.ref (ad 5), .int a1, .int a2, .int a3]) ++ List.replicate (4 - (lg_sl ([.ref (ad 5), .int a1, .int a2, .int a3])).length) Slot.unset).toArray = ls at hl ⊢
  have hl : lv_has ls 4 [(0, .ref (ad 5)), (1, .int a1), (2, .int a2), (3, .int a3)] := hl
  have key : ∀ n : Nat, (∀ {x1 x2 x3 : Int32} {σ : tq_S} {H : Heap} {locs : List Loc} {ls : Array Slot}, va_P (dC, dI) tq_cl (wo cI cL cZ ad σ) H → va_D A (wo cI cL cZ ad σ) → va_S A s.heap H locs → lv_has ls 4 [(0, .ref (ad 5)), (1, .int x1), (2, .int x2), (3, .int x3)] → tq_go st_Mo_has n (0, [x1, x2, x3], [], σ) = some (tq_rt, [r], [], σ') → W p l e (headSpec w_Mo_has ({ frames := 1, cells := 0, slots := 0, locals := 20 } : Room)).room s m ([.ref (ad 5), .int a1, .int a2, .int a3] : List Value).toArray below meth c H locs 0 0 (MQ below (va_Qi (fun (r' : Int32) (u : tq_S) => r' = r ∧ u = σ') (tq_E dC dI cI cL cZ (wo cI cL cZ ad) A) A) ([.ref (ad 5), .int a1, .int a2, .int a3] : List Value).toArray s 0 0 A) (F0 m 0 ls [])) := by
    intro n
    induction n with
    | zero => exact fun _ _ _ _ h => by cases h
    | succ n ih =>
      intro x1 x2 x3 σ H locs ls hP hD hS hl h9
      obtain ⟨q9, hg, hn⟩ := tq_go_s h9 (show ¬ (0 : Nat) = tq_rt by decide)
      replace hg : bk_Mo_has_0 [x1, x2, x3] [] σ = some q9 := hg
      unfold bk_Mo_has_0 at hg
      refine lv_iload_n hx hb d_Mo_has_0 rfl (lv_at hl 1 rfl) ?_
      obtain ⟨r2, σ3, f1, hg⟩ := tq_ob_s hg
      refine tq_aI (va_runS (As := [.int x1]) (rest := []) ⟨hx, hb, hml, hown, hts⟩ (c_Mo_isThing l dC dI cI cL cZ ad tt H.size σ x1  r2 σ3 f1) (va_cwS 1 hts (tq_gS tw_779 tw_780 tw_6 tw_781) rfl rfl rfl (by decide +kernel) ⟨Nat.le_of_ble_eq_true rfl, Nat.le_of_ble_eq_true rfl⟩) ⟨tq_bl, (tq_pr hP hK hD hS hA hZ hN)⟩ rfl rfl hl.1 rfl (lv_room (Nat.le_of_ble_eq_true rfl)) d_Mo_has_1 ⟨Nat.zero_le _, Nat.zero_le _⟩) hD hS hA (fun H locs hP hD hS => ?_)
      refine lv_if_eq (tgt := 21) hx hb d_Mo_has_4 (by decide) (fun c4 => ?_) (fun c4 => ?_)
      · replace hg := tq_if_t c4 hg
        refine lv_iconst (v := (-1)) hx hb d_Mo_has_21 (by decide) ?_
        exact W.iret (v := (-1)) hx hb hr (fun t ht hW => ⟨⟨(-1), σ3, rfl, tq_grI hg hn, by rw [ht]; exact hP, va_K.moved hW.alike hK, hD⟩, hS.F ht⟩) hS.2.2 d_Mo_has_22
      · replace hg := tq_if_f c4 hg
        refine lv_iload_n hx hb d_Mo_has_7 rfl (lv_at hl 2 rfl) ?_
        obtain ⟨r6, σ7, f5, hg⟩ := tq_ob_s hg
        refine tq_aI (va_runS (As := [.int x2]) (rest := []) ⟨hx, hb, hml, hown, hts⟩ (c_Mo_isRole l dC dI cI cL cZ ad tt H.size σ3 x2  r6 σ7 f5) (va_cwS 1 hts (tq_gS tw_696 tw_697 tw_6 tw_698) rfl rfl rfl (by decide +kernel) ⟨Nat.le_of_ble_eq_true rfl, Nat.le_of_ble_eq_true rfl⟩) ⟨tq_bl, (tq_pr hP hK hD hS hA hZ hN)⟩ rfl rfl hl.1 rfl (lv_room (Nat.le_of_ble_eq_true rfl)) d_Mo_has_8 ⟨Nat.zero_le _, Nat.zero_le _⟩) hD hS hA (fun H locs hP hD hS => ?_)
        refine lv_if_eq (tgt := 21) hx hb d_Mo_has_11 (by decide) (fun c8 => ?_) (fun c8 => ?_)
        · replace hg := tq_if_t c8 hg
          refine lv_iconst (v := (-1)) hx hb d_Mo_has_21 (by decide) ?_
          exact W.iret (v := (-1)) hx hb hr (fun t ht hW => ⟨⟨(-1), σ7, rfl, tq_grI hg hn, by rw [ht]; exact hP, va_K.moved hW.alike hK, hD⟩, hS.F ht⟩) hS.2.2 d_Mo_has_22
        · replace hg := tq_if_f c8 hg
          refine lv_iload_n hx hb d_Mo_has_14 rfl (lv_at hl 3 rfl) ?_
          obtain ⟨r10, σ11, f9, hg⟩ := tq_ob_s hg
          refine tq_aI (va_runS (As := [.int x3]) (rest := []) ⟨hx, hb, hml, hown, hts⟩ (c_Mo_isThing l dC dI cI cL cZ ad tt H.size σ7 x3  r10 σ11 f9) (va_cwS 1 hts (tq_gS tw_779 tw_780 tw_6 tw_781) rfl rfl rfl (by decide +kernel) ⟨Nat.le_of_ble_eq_true rfl, Nat.le_of_ble_eq_true rfl⟩) ⟨tq_bl, (tq_pr hP hK hD hS hA hZ hN)⟩ rfl rfl hl.1 rfl (lv_room (Nat.le_of_ble_eq_true rfl)) d_Mo_has_15 ⟨Nat.zero_le _, Nat.zero_le _⟩) hD hS hA (fun H locs hP hD hS => ?_)
          refine lv_if_ne (tgt := 23) hx hb d_Mo_has_18 (by decide) (fun c12 => ?_) (fun c12 => ?_)
          · replace hg := tq_if_t c12 hg
            refine lv_aload_n hx hb d_Mo_has_23 rfl (lv_at hl 0 rfl) ?_
            refine va_get (D := (dC, dI)) (ci := 5) (v := .int (σ11.2.2 17)) (C := "TableauNodesModel") (T := F_Mo) (N := 25) hx hb hts in_Mo hown hK hP 5 rfl rfl 16 (by decide) (hts _ tw_615) (fun _ h9 => h9) rfl d_Mo_has_24 ?_
            refine lv_bipush (v := 40) hx hb d_Mo_has_27 (by decide) ?_
            refine lv_icmp_ne (tgt := 35) hx hb d_Mo_has_29 (by decide) (fun c13 => ?_) (fun c13 => ?_)
            · replace hg := tq_if_t c13 hg
              refine lv_aload_n hx hb d_Mo_has_35 rfl (lv_at hl 0 rfl) ?_
              refine va_get (D := (dC, dI)) (ci := 5) (v := .ref (ad 39)) (C := "TableauNodesModel") (T := F_Mo) (N := 25) hx hb hts in_Mo hown hK hP 5 rfl rfl 13 (by decide) (hts _ tw_612) (fun _ h9 => h9) rfl d_Mo_has_36 ?_
              refine lv_aload_n hx hb d_Mo_has_39 rfl (lv_at hl 0 rfl) ?_
              refine va_get (D := (dC, dI)) (ci := 5) (v := .int (σ11.2.2 17)) (C := "TableauNodesModel") (T := F_Mo) (N := 25) hx hb hts in_Mo hown hK hP 5 rfl rfl 16 (by decide) (hts _ tw_615) (fun _ h9 => h9) rfl d_Mo_has_40 ?_
              refine lv_iload_n hx hb d_Mo_has_43 rfl (lv_at hl 1 rfl) ?_
              obtain ⟨g14, hg⟩ := tq_gd_s hg
              refine va_iast hx hb hK hP hD hS 39 0 rfl rfl g14 d_Mo_has_44 (fun H locs hP hD hS => ?_)
              obtain ⟨σ15, eσ15, hg⟩ := tq_lj_s hg
              replace hP : va_P (dC, dI) tq_cl (wo cI cL cZ ad σ15) H := by rw [eσ15, ← ws_i26]; exact hP
              replace hD : va_D A (wo cI cL cZ ad σ15) := by rw [eσ15, ← ws_i26]; exact hD
              refine lv_aload_n hx hb d_Mo_has_45 rfl (lv_at hl 0 rfl) ?_
              refine va_get (D := (dC, dI)) (ci := 5) (v := .ref (ad 40)) (C := "TableauNodesModel") (T := F_Mo) (N := 25) hx hb hts in_Mo hown hK hP 5 rfl rfl 14 (by decide) (hts _ tw_613) (fun _ h9 => h9) rfl d_Mo_has_46 ?_
              refine lv_aload_n hx hb d_Mo_has_49 rfl (lv_at hl 0 rfl) ?_
              refine va_get (D := (dC, dI)) (ci := 5) (v := .int (σ15.2.2 17)) (C := "TableauNodesModel") (T := F_Mo) (N := 25) hx hb hts in_Mo hown hK hP 5 rfl rfl 16 (by decide) (hts _ tw_615) (fun _ h9 => h9) rfl d_Mo_has_50 ?_
              refine lv_iload_n hx hb d_Mo_has_53 rfl (lv_at hl 2 rfl) ?_
              obtain ⟨g16, hg⟩ := tq_gd_s hg
              refine va_iast hx hb hK hP hD hS 40 0 rfl rfl g16 d_Mo_has_54 (fun H locs hP hD hS => ?_)
              obtain ⟨σ17, eσ17, hg⟩ := tq_lj_s hg
              replace hP : va_P (dC, dI) tq_cl (wo cI cL cZ ad σ17) H := by rw [eσ17, ← ws_i27]; exact hP
              replace hD : va_D A (wo cI cL cZ ad σ17) := by rw [eσ17, ← ws_i27]; exact hD
              refine lv_aload_n hx hb d_Mo_has_55 rfl (lv_at hl 0 rfl) ?_
              refine va_get (D := (dC, dI)) (ci := 5) (v := .ref (ad 41)) (C := "TableauNodesModel") (T := F_Mo) (N := 25) hx hb hts in_Mo hown hK hP 5 rfl rfl 15 (by decide) (hts _ tw_614) (fun _ h9 => h9) rfl d_Mo_has_56 ?_
              refine lv_aload_n hx hb d_Mo_has_59 rfl (lv_at hl 0 rfl) ?_
              refine va_get (D := (dC, dI)) (ci := 5) (v := .int (σ17.2.2 17)) (C := "TableauNodesModel") (T := F_Mo) (N := 25) hx hb hts in_Mo hown hK hP 5 rfl rfl 16 (by decide) (hts _ tw_615) (fun _ h9 => h9) rfl d_Mo_has_60 ?_
              refine lv_iload_n hx hb d_Mo_has_63 rfl (lv_at hl 3 rfl) ?_
              obtain ⟨g18, hg⟩ := tq_gd_s hg
              refine va_iast hx hb hK hP hD hS 41 0 rfl rfl g18 d_Mo_has_64 (fun H locs hP hD hS => ?_)
              obtain ⟨σ19, eσ19, hg⟩ := tq_lj_s hg
              replace hP : va_P (dC, dI) tq_cl (wo cI cL cZ ad σ19) H := by rw [eσ19, ← ws_i28]; exact hP
              replace hD : va_D A (wo cI cL cZ ad σ19) := by rw [eσ19, ← ws_i28]; exact hD
              refine lv_aload_n hx hb d_Mo_has_65 rfl (lv_at hl 0 rfl) ?_
              refine lv_dup hx hb d_Mo_has_66 rfl ?_
              refine va_get (D := (dC, dI)) (ci := 5) (v := .int (σ19.2.2 17)) (C := "TableauNodesModel") (T := F_Mo) (N := 25) hx hb hts in_Mo hown hK hP 5 rfl rfl 16 (by decide) (hts _ tw_615) (fun _ h9 => h9) rfl d_Mo_has_67 ?_
              refine lv_iconst (v := 1) hx hb d_Mo_has_70 (by decide) ?_
              refine lv_iadd hx hb d_Mo_has_71 ?_
              refine va_put (D := (dC, dI)) (ci := 5) (v := .int ((σ19.2.2 17) + 1)) (ty := .int) (C := "TableauNodesModel") (T := F_Mo) (N := 25) hx hb hts in_Mo ty_Mo tk_Mo nm_Mo hown hK hP hD hS 5 rfl rfl 16 (by decide) (hts _ tw_615) (fun _ h9 => h9) rfl (by decide +kernel) rfl rfl (Nat.le_of_ble_eq_true rfl) d_Mo_has_72 (fun H locs hP hD hS => ?_)
              obtain ⟨σ20, eσ20, hg⟩ := tq_lj_s hg
              replace hP : va_P (dC, dI) tq_cl (wo cI cL cZ ad σ20) H := by rw [eσ20, ← ws_f17]; exact hP
              replace hD : va_D A (wo cI cL cZ ad σ20) := by rw [eσ20, ← ws_f17]; exact hD
              refine lv_aload_n hx hb d_Mo_has_75 rfl (lv_at hl 0 rfl) ?_
              refine va_get (D := (dC, dI)) (ci := 5) (v := .int (σ20.2.2 17)) (C := "TableauNodesModel") (T := F_Mo) (N := 25) hx hb hts in_Mo hown hK hP 5 rfl rfl 16 (by decide) (hts _ tw_615) (fun _ h9 => h9) rfl d_Mo_has_76 ?_
              exact W.iret (v := (σ20.2.2 17)) hx hb hr (fun t ht hW => ⟨⟨(σ20.2.2 17), σ20, rfl, tq_grI hg hn, by rw [ht]; exact hP, va_K.moved hW.alike hK, hD⟩, hS.F ht⟩) hS.2.2 d_Mo_has_79
            · replace hg := tq_if_n c13 hg
              refine lv_bipush (v := (-3)) hx hb d_Mo_has_32 (by decide) ?_
              exact W.iret (v := (-3)) hx hb hr (fun t ht hW => ⟨⟨(-3), σ11, rfl, tq_grI hg hn, by rw [ht]; exact hP, va_K.moved hW.alike hK, hD⟩, hS.F ht⟩) hS.2.2 d_Mo_has_34
          · replace hg := tq_if_n c12 hg
            refine lv_iconst (v := (-1)) hx hb d_Mo_has_21 (by decide) ?_
            exact W.iret (v := (-1)) hx hb hr (fun t ht hW => ⟨⟨(-1), σ11, rfl, tq_grI hg hn, by rw [ht]; exact hP, va_K.moved hW.alike hK, hD⟩, hS.F ht⟩) hS.2.2 d_Mo_has_22
  exact (key n0) hP hD hS hl h0
noncomputable def bk_Mo_forget_0 : List Int32 → List Int64 → tq_S → Option tq_C
  | [], [], σ => tq_lj ((σ.2.2 16) + (σ.2.2 17)) (fun v1 => tq_lj (fput σ 16 0) (fun σ2 => tq_lj (fput σ2 17 0) (fun σ3 => some (tq_rt, [v1], [], σ3))))
  | _, _, _ => none
noncomputable def st_Mo_forget (c : tq_C) : Option tq_C := if c.1 = 0 then bk_Mo_forget_0 c.2.1 c.2.2.1 c.2.2.2 else none
set_option maxHeartbeats 40000000 in
set_option maxRecDepth 100000 in
theorem c_Mo_forget (l : Launch) (dC : Nat → ClassId) (dI : Nat → Nat → Nat) (cI cL cZ : ClassId) (ad : Nat → Nat) (tt : Nat) (sz : Nat) (σ : tq_S) (r : Int32) (σ' : tq_S) (hf : tq_fI st_Mo_forget (0, [], [], σ) = some (r, σ')) : Met l y_Mo_forget w_Mo_forget ({ frames := 0, cells := 0, slots := 0, locals := 0 } : Room) (va_Pc [.ref (ad 5)] (tq_B dC dI cI cL cZ tt (wo cI cL cZ ad σ) sz)) (va_Qi (fun (r' : Int32) (u : tq_S) => r' = r ∧ u = σ') (tq_E dC dI cI cL cZ (wo cI cL cZ ad) (va_A (wo cI cL cZ ad σ) sz)) (va_A (wo cI cL cZ ad σ) sz)) 0 0 (va_A (wo cI cL cZ ad σ) sz) := by
  obtain ⟨n0, h0⟩ := tq_fI_to hf
  refine Met.ofW (cc := prog_7_method_31_code) (maxL := 2) (ret := (some .int)) (by decide) rfl ?_
  intro p e s m args below meth c s₁ B hml hv
  obtain ⟨rfl, hsz, hP, hK, hD0, hZ, hN⟩ := hv
  have hx := B.exec
  have hb := B.bytes
  have hr := B.returns
  have hts : ∀ w ∈ tq_T, w.before _ s = true := fun w h => atoms_spec (ws := w_Mo_forget) B.pre w (List.mem_cons_of_mem _ h)
  have hown : s.vm.findClass "TableauNodesModel" = some m.cls := findClass_of_methodNamed B.named
  have hlocks := B.notSynchronized
  subst hsz
  have hD := hD0.self (sz := s.heap.size)
  have hS : va_S (va_A (wo cI cL cZ ad σ) s.heap.size) s.heap s.heap [] := va_S.rf
  have hA : ∀ q : Nat, s.heap.size ≤ q → va_A (wo cI cL cZ ad σ) s.heap.size q := fun q h => Or.inr h
  generalize va_A (wo cI cL cZ ad σ) s.heap.size = A at hD hS hA hZ ⊢
  have hl := lv_entry ([.ref (ad 5)]) (n := 2) (Nat.le_of_ble_eq_true rfl)
  rw [lg_entry_eq]
  generalize (lg_sl ([.ref (ad 5)]) ++ List.replicate (2 - (lg_sl ([.ref (ad 5)])).length) Slot.unset).toArray = ls at hl ⊢
  have hl : lv_has ls 2 [(0, .ref (ad 5))] := hl
  have key : ∀ n : Nat, (∀ {σ : tq_S} {H : Heap} {locs : List Loc} {ls : Array Slot}, va_P (dC, dI) tq_cl (wo cI cL cZ ad σ) H → va_D A (wo cI cL cZ ad σ) → va_S A s.heap H locs → lv_has ls 2 [(0, .ref (ad 5))] → tq_go st_Mo_forget n (0, [], [], σ) = some (tq_rt, [r], [], σ') → W p l e (headSpec w_Mo_forget ({ frames := 0, cells := 0, slots := 0, locals := 0 } : Room)).room s m ([.ref (ad 5)] : List Value).toArray below meth c H locs 0 0 (MQ below (va_Qi (fun (r' : Int32) (u : tq_S) => r' = r ∧ u = σ') (tq_E dC dI cI cL cZ (wo cI cL cZ ad) A) A) ([.ref (ad 5)] : List Value).toArray s 0 0 A) (F0 m 0 ls [])) := by
    intro n
    induction n with
    | zero => exact fun _ _ _ _ h => by cases h
    | succ n ih =>
      intro  σ H locs ls hP hD hS hl h9
      obtain ⟨q9, hg, hn⟩ := tq_go_s h9 (show ¬ (0 : Nat) = tq_rt by decide)
      replace hg : bk_Mo_forget_0 [] [] σ = some q9 := hg
      unfold bk_Mo_forget_0 at hg
      refine lv_aload_n hx hb d_Mo_forget_0 rfl (lv_at hl 0 rfl) ?_
      refine va_get (D := (dC, dI)) (ci := 5) (v := .int (σ.2.2 16)) (C := "TableauNodesModel") (T := F_Mo) (N := 25) hx hb hts in_Mo hown hK hP 5 rfl rfl 12 (by decide) (hts _ tw_611) (fun _ h9 => h9) rfl d_Mo_forget_1 ?_
      refine lv_aload_n hx hb d_Mo_forget_4 rfl (lv_at hl 0 rfl) ?_
      refine va_get (D := (dC, dI)) (ci := 5) (v := .int (σ.2.2 17)) (C := "TableauNodesModel") (T := F_Mo) (N := 25) hx hb hts in_Mo hown hK hP 5 rfl rfl 16 (by decide) (hts _ tw_615) (fun _ h9 => h9) rfl d_Mo_forget_5 ?_
      refine lv_iadd hx hb d_Mo_forget_8 ?_
      obtain ⟨v1, ev1, hg⟩ := tq_lj_s hg
      refine tq_nmi ev1 ?_
      refine lv_istore_n (lv' := [(1, .int v1), (0, .ref (ad 5))]) hx hb d_Mo_forget_9 rfl hl (by decide) rfl (fun ls hl => ?_)
      refine lv_aload_n hx hb d_Mo_forget_10 rfl (lv_at hl 1 rfl) ?_
      refine lv_iconst (v := 0) hx hb d_Mo_forget_11 (by decide) ?_
      refine va_put (D := (dC, dI)) (ci := 5) (v := .int 0) (ty := .int) (C := "TableauNodesModel") (T := F_Mo) (N := 25) hx hb hts in_Mo ty_Mo tk_Mo nm_Mo hown hK hP hD hS 5 rfl rfl 12 (by decide) (hts _ tw_611) (fun _ h9 => h9) rfl (by decide +kernel) rfl rfl (Nat.le_of_ble_eq_true rfl) d_Mo_forget_12 (fun H locs hP hD hS => ?_)
      obtain ⟨σ2, eσ2, hg⟩ := tq_lj_s hg
      replace hP : va_P (dC, dI) tq_cl (wo cI cL cZ ad σ2) H := by rw [eσ2, ← ws_f16]; exact hP
      replace hD : va_D A (wo cI cL cZ ad σ2) := by rw [eσ2, ← ws_f16]; exact hD
      refine lv_aload_n hx hb d_Mo_forget_15 rfl (lv_at hl 1 rfl) ?_
      refine lv_iconst (v := 0) hx hb d_Mo_forget_16 (by decide) ?_
      refine va_put (D := (dC, dI)) (ci := 5) (v := .int 0) (ty := .int) (C := "TableauNodesModel") (T := F_Mo) (N := 25) hx hb hts in_Mo ty_Mo tk_Mo nm_Mo hown hK hP hD hS 5 rfl rfl 16 (by decide) (hts _ tw_615) (fun _ h9 => h9) rfl (by decide +kernel) rfl rfl (Nat.le_of_ble_eq_true rfl) d_Mo_forget_17 (fun H locs hP hD hS => ?_)
      obtain ⟨σ3, eσ3, hg⟩ := tq_lj_s hg
      replace hP : va_P (dC, dI) tq_cl (wo cI cL cZ ad σ3) H := by rw [eσ3, ← ws_f17]; exact hP
      replace hD : va_D A (wo cI cL cZ ad σ3) := by rw [eσ3, ← ws_f17]; exact hD
      refine lv_iload_n hx hb d_Mo_forget_20 rfl (lv_at hl 0 rfl) ?_
      exact W.iret (v := v1) hx hb hr (fun t ht hW => ⟨⟨v1, σ3, rfl, tq_grI hg hn, by rw [ht]; exact hP, va_K.moved hW.alike hK, hD⟩, hS.F ht⟩) hS.2.2 d_Mo_forget_21
  exact (key n0) hP hD hS hl h0
