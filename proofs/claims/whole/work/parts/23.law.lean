/-! THE CLAIM OUT OF ONE WALK OF THE LAW'S BODY. Your part is whole_start (and what it stands on); all else here is the same for every law, but numbers. -/
def R_law : String := "TableauNodesLaw"
def lw_P (b : Addr) (xs : List Int32) (args : Array Value) (s : State) : Prop := args = #[.ref b] ∧ s.IntsAt b xs ∧ xs.length ≤ 2048 ∧ (Jvm.Cond.and given_1 narrow_1).before args s = true
def lw_Q (_ : Array Value) (s : State) (o : Outcome) (t : State) : Prop := o = .returned (some (.int 1)) ∧ Framed s o t [] 600000 7302250
def lw_Z (below : List Frame) (a : Array Value) (s : State) : State → Prop := fun t => ∃ o, t.status = .running ∧ Ended t below o ∧ lw_Q a s o t
/-- the law's own end, with 1 on the stack, nothing written that was there before, its room as the claim has it -/
theorem lw_ret {p : Program} {l : Launch} {e : Env} {s : State} {m : MethodId} {below : List Frame} {meth : Method} {c : Code} {b : Nat} (hx : p.tables.exec = Jvm.exec) (hb : c.code = code) (hr : meth.sig.returnType = ret) (hlocks : meth.locks = false) {pc : Nat} {H : Heap} {ls : Array Slot} (hdg : decode code pc = .ok (.ireturn, 1)) : W p l e room_1 s m #[Value.ref b] below meth c H [] 600000 7302250 (lw_Z below #[Value.ref b] s) (F0 m pc ls [.int 1]) := by
  intro T hT X
  obtain ⟨fs, hret, hrun, hended, hW, hframe⟩ := X.leave (v := some (.int 1)) (hlocks := hlocks) (fun h => by rw [hr] at h; cases h)
  have hmeth' : T.vm.method? m = some meth := X.method'
  refine ⟨T.setFrames fs, ?_, .returned (some (.int 1)), hrun, hended, rfl, ⟨_, rfl⟩, hW, hframe⟩
  jvm_step X.here [X.here.top, hx, hb, hdg, hmeth', hr, ret, narrow_b1]
  (try refine ⟨rfl, ?_⟩); (try refine ⟨rfl, ?_⟩)
  first | (intro acts; rw [hret _ acts rfl rfl rfl]) | rw [hret _ _ rfl rfl rfl]
  exact Steps.refl _
/-- what holds at the law's entry: the machine, the code, the tables' words (any of lw_tbl by 'hts w (by decide +kernel)'), the script of L ints xs at the cell b, what the Statement gives of the start (any of its parts by flat_of_before) -/
def lw_At (p : Program) (s : State) (m : MethodId) (meth : Method) (c : Code) (b L : Nat) (xs : Nat → Int32) : Prop :=
  p.tables.exec = Jvm.exec ∧ c.code = code ∧ meth.sig.returnType = ret ∧ c.maxLocals = 4 ∧ s.vm.findClass R_law = some m.cls ∧ (∀ w ∈ lw_tbl, w.before #[Value.ref b] s = true) ∧ va_X b L xs s s.heap ∧ b < s.heap.size ∧ meth.locks = false ∧ (Jvm.Cond.and given_1 narrow_1).before #[Value.ref b] s = true
theorem d_Lw_law_0 : decode code 0 = .ok (.new 7, 3) := by decide +kernel
theorem d_Lw_law_3 : decode code 3 = .ok (.dup, 1) := by decide +kernel
theorem d_Lw_law_4 : decode code 4 = .ok (.invokespecial 9, 3) := by decide +kernel
theorem d_Lw_law_7 : decode code 7 = .ok (.astore_n 1, 1) := by decide +kernel
theorem d_Lw_law_8 : decode code 8 = .ok (.new 10, 3) := by decide +kernel
theorem d_Lw_law_11 : decode code 11 = .ok (.dup, 1) := by decide +kernel
theorem d_Lw_law_12 : decode code 12 = .ok (.invokespecial 12, 3) := by decide +kernel
theorem d_Lw_law_15 : decode code 15 = .ok (.astore_n 2, 1) := by decide +kernel
theorem d_Lw_law_16 : decode code 16 = .ok (.iconst 0, 1) := by decide +kernel
theorem d_Lw_law_17 : decode code 17 = .ok (.istore_n 3, 1) := by decide +kernel
theorem d_Lw_law_18 : decode code 18 = .ok (.iload_n 3, 1) := by decide +kernel
theorem d_Lw_law_19 : decode code 19 = .ok (.aload_n 0, 1) := by decide +kernel
theorem d_Lw_law_20 : decode code 20 = .ok (.arraylength, 1) := by decide +kernel
theorem d_Lw_law_21 : decode code 21 = .ok (.iconst 4, 1) := by decide +kernel
theorem d_Lw_law_22 : decode code 22 = .ok (.isub, 1) := by decide +kernel
theorem d_Lw_law_23 : decode code 23 = .ok (.if_icmp .gt 574, 3) := by decide +kernel
theorem d_Lw_law_26 : decode code 26 = .ok (.aload_n 0, 1) := by decide +kernel
theorem d_Lw_law_27 : decode code 27 = .ok (.iload_n 3, 1) := by decide +kernel
theorem d_Lw_law_28 : decode code 28 = .ok (.iaload, 1) := by decide +kernel
theorem d_Lw_law_29 : decode code 29 = .ok (.bipush 31, 2) := by decide +kernel
theorem d_Lw_law_31 : decode code 31 = .ok (.iand, 1) := by decide +kernel
theorem d_Lw_law_32 : decode code 32 = .ok (.tableswitch 559 0 18 #[92, 115, 158, 191, 204, 217, 250, 263, 296, 319, 352, 365, 378, 401, 434, 477, 490, 503, 526], 92) := by decide +kernel
theorem d_Lw_law_124 : decode code 124 = .ok (.aload_n 1, 1) := by decide +kernel
theorem d_Lw_law_125 : decode code 125 = .ok (.aload_n 0, 1) := by decide +kernel
theorem d_Lw_law_126 : decode code 126 = .ok (.iload_n 3, 1) := by decide +kernel
theorem d_Lw_law_127 : decode code 127 = .ok (.iconst 1, 1) := by decide +kernel
theorem d_Lw_law_128 : decode code 128 = .ok (.iadd, 1) := by decide +kernel
theorem d_Lw_law_129 : decode code 129 = .ok (.iaload, 1) := by decide +kernel
theorem d_Lw_law_130 : decode code 130 = .ok (.invokevirtual 13, 3) := by decide +kernel
theorem d_Lw_law_133 : decode code 133 = .ok (.aload_n 2, 1) := by decide +kernel
theorem d_Lw_law_134 : decode code 134 = .ok (.aload_n 0, 1) := by decide +kernel
theorem d_Lw_law_135 : decode code 135 = .ok (.iload_n 3, 1) := by decide +kernel
theorem d_Lw_law_136 : decode code 136 = .ok (.iconst 1, 1) := by decide +kernel
theorem d_Lw_law_137 : decode code 137 = .ok (.iadd, 1) := by decide +kernel
theorem d_Lw_law_138 : decode code 138 = .ok (.iaload, 1) := by decide +kernel
theorem d_Lw_law_139 : decode code 139 = .ok (.invokevirtual 17, 3) := by decide +kernel
theorem d_Lw_law_142 : decode code 142 = .ok (.if_icmp .eq 449, 3) := by decide +kernel
theorem d_Lw_law_145 : decode code 145 = .ok (.iconst 0, 1) := by decide +kernel
theorem d_Lw_law_146 : decode code 146 = .ok (.ireturn, 1) := by decide +kernel
theorem d_Lw_law_147 : decode code 147 = .ok (.aload_n 1, 1) := by decide +kernel
theorem d_Lw_law_148 : decode code 148 = .ok (.aload_n 0, 1) := by decide +kernel
theorem d_Lw_law_149 : decode code 149 = .ok (.iload_n 3, 1) := by decide +kernel
theorem d_Lw_law_150 : decode code 150 = .ok (.iconst 1, 1) := by decide +kernel
theorem d_Lw_law_151 : decode code 151 = .ok (.iadd, 1) := by decide +kernel
theorem d_Lw_law_152 : decode code 152 = .ok (.iaload, 1) := by decide +kernel
theorem d_Lw_law_153 : decode code 153 = .ok (.aload_n 0, 1) := by decide +kernel
theorem d_Lw_law_154 : decode code 154 = .ok (.iload_n 3, 1) := by decide +kernel
theorem d_Lw_law_155 : decode code 155 = .ok (.iconst 2, 1) := by decide +kernel
theorem d_Lw_law_156 : decode code 156 = .ok (.iadd, 1) := by decide +kernel
theorem d_Lw_law_157 : decode code 157 = .ok (.iaload, 1) := by decide +kernel
theorem d_Lw_law_158 : decode code 158 = .ok (.aload_n 0, 1) := by decide +kernel
theorem d_Lw_law_159 : decode code 159 = .ok (.iload_n 3, 1) := by decide +kernel
theorem d_Lw_law_160 : decode code 160 = .ok (.iconst 3, 1) := by decide +kernel
theorem d_Lw_law_161 : decode code 161 = .ok (.iadd, 1) := by decide +kernel
theorem d_Lw_law_162 : decode code 162 = .ok (.iaload, 1) := by decide +kernel
theorem d_Lw_law_163 : decode code 163 = .ok (.invokevirtual 18, 3) := by decide +kernel
theorem d_Lw_law_166 : decode code 166 = .ok (.aload_n 2, 1) := by decide +kernel
theorem d_Lw_law_167 : decode code 167 = .ok (.aload_n 0, 1) := by decide +kernel
theorem d_Lw_law_168 : decode code 168 = .ok (.iload_n 3, 1) := by decide +kernel
theorem d_Lw_law_169 : decode code 169 = .ok (.iconst 1, 1) := by decide +kernel
theorem d_Lw_law_170 : decode code 170 = .ok (.iadd, 1) := by decide +kernel
theorem d_Lw_law_171 : decode code 171 = .ok (.iaload, 1) := by decide +kernel
theorem d_Lw_law_172 : decode code 172 = .ok (.aload_n 0, 1) := by decide +kernel
theorem d_Lw_law_173 : decode code 173 = .ok (.iload_n 3, 1) := by decide +kernel
theorem d_Lw_law_174 : decode code 174 = .ok (.iconst 2, 1) := by decide +kernel
theorem d_Lw_law_175 : decode code 175 = .ok (.iadd, 1) := by decide +kernel
theorem d_Lw_law_176 : decode code 176 = .ok (.iaload, 1) := by decide +kernel
theorem d_Lw_law_177 : decode code 177 = .ok (.aload_n 0, 1) := by decide +kernel
theorem d_Lw_law_178 : decode code 178 = .ok (.iload_n 3, 1) := by decide +kernel
theorem d_Lw_law_179 : decode code 179 = .ok (.iconst 3, 1) := by decide +kernel
theorem d_Lw_law_180 : decode code 180 = .ok (.iadd, 1) := by decide +kernel
theorem d_Lw_law_181 : decode code 181 = .ok (.iaload, 1) := by decide +kernel
theorem d_Lw_law_182 : decode code 182 = .ok (.invokevirtual 22, 3) := by decide +kernel
theorem d_Lw_law_185 : decode code 185 = .ok (.if_icmp .eq 406, 3) := by decide +kernel
theorem d_Lw_law_188 : decode code 188 = .ok (.iconst 0, 1) := by decide +kernel
theorem d_Lw_law_189 : decode code 189 = .ok (.ireturn, 1) := by decide +kernel
theorem d_Lw_law_190 : decode code 190 = .ok (.aload_n 1, 1) := by decide +kernel
theorem d_Lw_law_191 : decode code 191 = .ok (.aload_n 0, 1) := by decide +kernel
theorem d_Lw_law_192 : decode code 192 = .ok (.iload_n 3, 1) := by decide +kernel
theorem d_Lw_law_193 : decode code 193 = .ok (.iconst 1, 1) := by decide +kernel
theorem d_Lw_law_194 : decode code 194 = .ok (.iadd, 1) := by decide +kernel
theorem d_Lw_law_195 : decode code 195 = .ok (.iaload, 1) := by decide +kernel
theorem d_Lw_law_196 : decode code 196 = .ok (.aload_n 0, 1) := by decide +kernel
theorem d_Lw_law_197 : decode code 197 = .ok (.iload_n 3, 1) := by decide +kernel
theorem d_Lw_law_198 : decode code 198 = .ok (.iconst 2, 1) := by decide +kernel
theorem d_Lw_law_199 : decode code 199 = .ok (.iadd, 1) := by decide +kernel
theorem d_Lw_law_200 : decode code 200 = .ok (.iaload, 1) := by decide +kernel
theorem d_Lw_law_201 : decode code 201 = .ok (.invokevirtual 23, 3) := by decide +kernel
theorem d_Lw_law_204 : decode code 204 = .ok (.aload_n 2, 1) := by decide +kernel
theorem d_Lw_law_205 : decode code 205 = .ok (.aload_n 0, 1) := by decide +kernel
theorem d_Lw_law_206 : decode code 206 = .ok (.iload_n 3, 1) := by decide +kernel
theorem d_Lw_law_207 : decode code 207 = .ok (.iconst 1, 1) := by decide +kernel
theorem d_Lw_law_208 : decode code 208 = .ok (.iadd, 1) := by decide +kernel
theorem d_Lw_law_209 : decode code 209 = .ok (.iaload, 1) := by decide +kernel
theorem d_Lw_law_210 : decode code 210 = .ok (.aload_n 0, 1) := by decide +kernel
theorem d_Lw_law_211 : decode code 211 = .ok (.iload_n 3, 1) := by decide +kernel
theorem d_Lw_law_212 : decode code 212 = .ok (.iconst 2, 1) := by decide +kernel
theorem d_Lw_law_213 : decode code 213 = .ok (.iadd, 1) := by decide +kernel
theorem d_Lw_law_214 : decode code 214 = .ok (.iaload, 1) := by decide +kernel
theorem d_Lw_law_215 : decode code 215 = .ok (.invokevirtual 27, 3) := by decide +kernel
theorem d_Lw_law_218 : decode code 218 = .ok (.if_icmp .eq 373, 3) := by decide +kernel
theorem d_Lw_law_221 : decode code 221 = .ok (.iconst 0, 1) := by decide +kernel
theorem d_Lw_law_222 : decode code 222 = .ok (.ireturn, 1) := by decide +kernel
theorem d_Lw_law_223 : decode code 223 = .ok (.aload_n 1, 1) := by decide +kernel
theorem d_Lw_law_224 : decode code 224 = .ok (.invokevirtual 28, 3) := by decide +kernel
theorem d_Lw_law_227 : decode code 227 = .ok (.aload_n 2, 1) := by decide +kernel
theorem d_Lw_law_228 : decode code 228 = .ok (.invokevirtual 32, 3) := by decide +kernel
theorem d_Lw_law_231 : decode code 231 = .ok (.if_icmp .eq 360, 3) := by decide +kernel
theorem d_Lw_law_234 : decode code 234 = .ok (.iconst 0, 1) := by decide +kernel
theorem d_Lw_law_235 : decode code 235 = .ok (.ireturn, 1) := by decide +kernel
theorem d_Lw_law_236 : decode code 236 = .ok (.aload_n 1, 1) := by decide +kernel
theorem d_Lw_law_237 : decode code 237 = .ok (.invokevirtual 33, 3) := by decide +kernel
theorem d_Lw_law_240 : decode code 240 = .ok (.aload_n 2, 1) := by decide +kernel
theorem d_Lw_law_241 : decode code 241 = .ok (.invokevirtual 36, 3) := by decide +kernel
theorem d_Lw_law_244 : decode code 244 = .ok (.if_icmp .eq 347, 3) := by decide +kernel
theorem d_Lw_law_247 : decode code 247 = .ok (.iconst 0, 1) := by decide +kernel
theorem d_Lw_law_248 : decode code 248 = .ok (.ireturn, 1) := by decide +kernel
theorem d_Lw_law_249 : decode code 249 = .ok (.aload_n 1, 1) := by decide +kernel
theorem d_Lw_law_250 : decode code 250 = .ok (.aload_n 0, 1) := by decide +kernel
theorem d_Lw_law_251 : decode code 251 = .ok (.iload_n 3, 1) := by decide +kernel
theorem d_Lw_law_252 : decode code 252 = .ok (.iconst 1, 1) := by decide +kernel
theorem d_Lw_law_253 : decode code 253 = .ok (.iadd, 1) := by decide +kernel
theorem d_Lw_law_254 : decode code 254 = .ok (.iaload, 1) := by decide +kernel
theorem d_Lw_law_255 : decode code 255 = .ok (.aload_n 0, 1) := by decide +kernel
theorem d_Lw_law_256 : decode code 256 = .ok (.iload_n 3, 1) := by decide +kernel
theorem d_Lw_law_257 : decode code 257 = .ok (.iconst 2, 1) := by decide +kernel
theorem d_Lw_law_258 : decode code 258 = .ok (.iadd, 1) := by decide +kernel
theorem d_Lw_law_259 : decode code 259 = .ok (.iaload, 1) := by decide +kernel
theorem d_Lw_law_260 : decode code 260 = .ok (.invokevirtual 37, 3) := by decide +kernel
theorem d_Lw_law_263 : decode code 263 = .ok (.aload_n 2, 1) := by decide +kernel
theorem d_Lw_law_264 : decode code 264 = .ok (.aload_n 0, 1) := by decide +kernel
theorem d_Lw_law_265 : decode code 265 = .ok (.iload_n 3, 1) := by decide +kernel
theorem d_Lw_law_266 : decode code 266 = .ok (.iconst 1, 1) := by decide +kernel
theorem d_Lw_law_267 : decode code 267 = .ok (.iadd, 1) := by decide +kernel
theorem d_Lw_law_268 : decode code 268 = .ok (.iaload, 1) := by decide +kernel
theorem d_Lw_law_269 : decode code 269 = .ok (.aload_n 0, 1) := by decide +kernel
theorem d_Lw_law_270 : decode code 270 = .ok (.iload_n 3, 1) := by decide +kernel
theorem d_Lw_law_271 : decode code 271 = .ok (.iconst 2, 1) := by decide +kernel
theorem d_Lw_law_272 : decode code 272 = .ok (.iadd, 1) := by decide +kernel
theorem d_Lw_law_273 : decode code 273 = .ok (.iaload, 1) := by decide +kernel
theorem d_Lw_law_274 : decode code 274 = .ok (.invokevirtual 40, 3) := by decide +kernel
theorem d_Lw_law_277 : decode code 277 = .ok (.if_icmp .eq 314, 3) := by decide +kernel
theorem d_Lw_law_280 : decode code 280 = .ok (.iconst 0, 1) := by decide +kernel
theorem d_Lw_law_281 : decode code 281 = .ok (.ireturn, 1) := by decide +kernel
theorem d_Lw_law_282 : decode code 282 = .ok (.aload_n 1, 1) := by decide +kernel
theorem d_Lw_law_283 : decode code 283 = .ok (.invokevirtual 41, 3) := by decide +kernel
theorem d_Lw_law_286 : decode code 286 = .ok (.aload_n 2, 1) := by decide +kernel
theorem d_Lw_law_287 : decode code 287 = .ok (.invokevirtual 44, 3) := by decide +kernel
theorem d_Lw_law_290 : decode code 290 = .ok (.if_icmp .eq 301, 3) := by decide +kernel
theorem d_Lw_law_293 : decode code 293 = .ok (.iconst 0, 1) := by decide +kernel
theorem d_Lw_law_294 : decode code 294 = .ok (.ireturn, 1) := by decide +kernel
theorem d_Lw_law_295 : decode code 295 = .ok (.aload_n 1, 1) := by decide +kernel
theorem d_Lw_law_296 : decode code 296 = .ok (.aload_n 0, 1) := by decide +kernel
theorem d_Lw_law_297 : decode code 297 = .ok (.iload_n 3, 1) := by decide +kernel
theorem d_Lw_law_298 : decode code 298 = .ok (.iconst 1, 1) := by decide +kernel
theorem d_Lw_law_299 : decode code 299 = .ok (.iadd, 1) := by decide +kernel
theorem d_Lw_law_300 : decode code 300 = .ok (.iaload, 1) := by decide +kernel
theorem d_Lw_law_301 : decode code 301 = .ok (.aload_n 0, 1) := by decide +kernel
theorem d_Lw_law_302 : decode code 302 = .ok (.iload_n 3, 1) := by decide +kernel
theorem d_Lw_law_303 : decode code 303 = .ok (.iconst 2, 1) := by decide +kernel
theorem d_Lw_law_304 : decode code 304 = .ok (.iadd, 1) := by decide +kernel
theorem d_Lw_law_305 : decode code 305 = .ok (.iaload, 1) := by decide +kernel
theorem d_Lw_law_306 : decode code 306 = .ok (.invokevirtual 45, 3) := by decide +kernel
theorem d_Lw_law_309 : decode code 309 = .ok (.aload_n 2, 1) := by decide +kernel
theorem d_Lw_law_310 : decode code 310 = .ok (.aload_n 0, 1) := by decide +kernel
theorem d_Lw_law_311 : decode code 311 = .ok (.iload_n 3, 1) := by decide +kernel
theorem d_Lw_law_312 : decode code 312 = .ok (.iconst 1, 1) := by decide +kernel
theorem d_Lw_law_313 : decode code 313 = .ok (.iadd, 1) := by decide +kernel
theorem d_Lw_law_314 : decode code 314 = .ok (.iaload, 1) := by decide +kernel
theorem d_Lw_law_315 : decode code 315 = .ok (.aload_n 0, 1) := by decide +kernel
theorem d_Lw_law_316 : decode code 316 = .ok (.iload_n 3, 1) := by decide +kernel
theorem d_Lw_law_317 : decode code 317 = .ok (.iconst 2, 1) := by decide +kernel
theorem d_Lw_law_318 : decode code 318 = .ok (.iadd, 1) := by decide +kernel
theorem d_Lw_law_319 : decode code 319 = .ok (.iaload, 1) := by decide +kernel
theorem d_Lw_law_320 : decode code 320 = .ok (.invokevirtual 48, 3) := by decide +kernel
theorem d_Lw_law_323 : decode code 323 = .ok (.if_icmp .eq 268, 3) := by decide +kernel
theorem d_Lw_law_326 : decode code 326 = .ok (.iconst 0, 1) := by decide +kernel
theorem d_Lw_law_327 : decode code 327 = .ok (.ireturn, 1) := by decide +kernel
theorem d_Lw_law_328 : decode code 328 = .ok (.aload_n 1, 1) := by decide +kernel
theorem d_Lw_law_329 : decode code 329 = .ok (.aload_n 0, 1) := by decide +kernel
theorem d_Lw_law_330 : decode code 330 = .ok (.iload_n 3, 1) := by decide +kernel
theorem d_Lw_law_331 : decode code 331 = .ok (.iconst 1, 1) := by decide +kernel
theorem d_Lw_law_332 : decode code 332 = .ok (.iadd, 1) := by decide +kernel
theorem d_Lw_law_333 : decode code 333 = .ok (.iaload, 1) := by decide +kernel
theorem d_Lw_law_334 : decode code 334 = .ok (.invokevirtual 49, 3) := by decide +kernel
theorem d_Lw_law_337 : decode code 337 = .ok (.aload_n 2, 1) := by decide +kernel
theorem d_Lw_law_338 : decode code 338 = .ok (.aload_n 0, 1) := by decide +kernel
theorem d_Lw_law_339 : decode code 339 = .ok (.iload_n 3, 1) := by decide +kernel
theorem d_Lw_law_340 : decode code 340 = .ok (.iconst 1, 1) := by decide +kernel
theorem d_Lw_law_341 : decode code 341 = .ok (.iadd, 1) := by decide +kernel
theorem d_Lw_law_342 : decode code 342 = .ok (.iaload, 1) := by decide +kernel
theorem d_Lw_law_343 : decode code 343 = .ok (.invokevirtual 52, 3) := by decide +kernel
theorem d_Lw_law_346 : decode code 346 = .ok (.if_icmp .eq 245, 3) := by decide +kernel
theorem d_Lw_law_349 : decode code 349 = .ok (.iconst 0, 1) := by decide +kernel
theorem d_Lw_law_350 : decode code 350 = .ok (.ireturn, 1) := by decide +kernel
theorem d_Lw_law_351 : decode code 351 = .ok (.aload_n 1, 1) := by decide +kernel
theorem d_Lw_law_352 : decode code 352 = .ok (.aload_n 0, 1) := by decide +kernel
theorem d_Lw_law_353 : decode code 353 = .ok (.iload_n 3, 1) := by decide +kernel
theorem d_Lw_law_354 : decode code 354 = .ok (.iconst 1, 1) := by decide +kernel
theorem d_Lw_law_355 : decode code 355 = .ok (.iadd, 1) := by decide +kernel
theorem d_Lw_law_356 : decode code 356 = .ok (.iaload, 1) := by decide +kernel
theorem d_Lw_law_357 : decode code 357 = .ok (.aload_n 0, 1) := by decide +kernel
theorem d_Lw_law_358 : decode code 358 = .ok (.iload_n 3, 1) := by decide +kernel
theorem d_Lw_law_359 : decode code 359 = .ok (.iconst 2, 1) := by decide +kernel
theorem d_Lw_law_360 : decode code 360 = .ok (.iadd, 1) := by decide +kernel
theorem d_Lw_law_361 : decode code 361 = .ok (.iaload, 1) := by decide +kernel
theorem d_Lw_law_362 : decode code 362 = .ok (.invokevirtual 53, 3) := by decide +kernel
theorem d_Lw_law_365 : decode code 365 = .ok (.aload_n 2, 1) := by decide +kernel
theorem d_Lw_law_366 : decode code 366 = .ok (.aload_n 0, 1) := by decide +kernel
theorem d_Lw_law_367 : decode code 367 = .ok (.iload_n 3, 1) := by decide +kernel
theorem d_Lw_law_368 : decode code 368 = .ok (.iconst 1, 1) := by decide +kernel
theorem d_Lw_law_369 : decode code 369 = .ok (.iadd, 1) := by decide +kernel
theorem d_Lw_law_370 : decode code 370 = .ok (.iaload, 1) := by decide +kernel
theorem d_Lw_law_371 : decode code 371 = .ok (.aload_n 0, 1) := by decide +kernel
theorem d_Lw_law_372 : decode code 372 = .ok (.iload_n 3, 1) := by decide +kernel
theorem d_Lw_law_373 : decode code 373 = .ok (.iconst 2, 1) := by decide +kernel
theorem d_Lw_law_374 : decode code 374 = .ok (.iadd, 1) := by decide +kernel
theorem d_Lw_law_375 : decode code 375 = .ok (.iaload, 1) := by decide +kernel
theorem d_Lw_law_376 : decode code 376 = .ok (.invokevirtual 56, 3) := by decide +kernel
theorem d_Lw_law_379 : decode code 379 = .ok (.if_icmp .eq 212, 3) := by decide +kernel
theorem d_Lw_law_382 : decode code 382 = .ok (.iconst 0, 1) := by decide +kernel
theorem d_Lw_law_383 : decode code 383 = .ok (.ireturn, 1) := by decide +kernel
theorem d_Lw_law_384 : decode code 384 = .ok (.aload_n 1, 1) := by decide +kernel
theorem d_Lw_law_385 : decode code 385 = .ok (.invokevirtual 57, 3) := by decide +kernel
theorem d_Lw_law_388 : decode code 388 = .ok (.aload_n 2, 1) := by decide +kernel
theorem d_Lw_law_389 : decode code 389 = .ok (.invokevirtual 60, 3) := by decide +kernel
theorem d_Lw_law_392 : decode code 392 = .ok (.if_icmp .eq 199, 3) := by decide +kernel
theorem d_Lw_law_395 : decode code 395 = .ok (.iconst 0, 1) := by decide +kernel
theorem d_Lw_law_396 : decode code 396 = .ok (.ireturn, 1) := by decide +kernel
theorem d_Lw_law_397 : decode code 397 = .ok (.aload_n 1, 1) := by decide +kernel
theorem d_Lw_law_398 : decode code 398 = .ok (.invokevirtual 61, 3) := by decide +kernel
theorem d_Lw_law_401 : decode code 401 = .ok (.aload_n 2, 1) := by decide +kernel
theorem d_Lw_law_402 : decode code 402 = .ok (.invokevirtual 64, 3) := by decide +kernel
theorem d_Lw_law_405 : decode code 405 = .ok (.if_icmp .eq 186, 3) := by decide +kernel
theorem d_Lw_law_408 : decode code 408 = .ok (.iconst 0, 1) := by decide +kernel
theorem d_Lw_law_409 : decode code 409 = .ok (.ireturn, 1) := by decide +kernel
theorem d_Lw_law_410 : decode code 410 = .ok (.aload_n 1, 1) := by decide +kernel
theorem d_Lw_law_411 : decode code 411 = .ok (.aload_n 0, 1) := by decide +kernel
theorem d_Lw_law_412 : decode code 412 = .ok (.iload_n 3, 1) := by decide +kernel
theorem d_Lw_law_413 : decode code 413 = .ok (.iconst 1, 1) := by decide +kernel
theorem d_Lw_law_414 : decode code 414 = .ok (.iadd, 1) := by decide +kernel
theorem d_Lw_law_415 : decode code 415 = .ok (.iaload, 1) := by decide +kernel
theorem d_Lw_law_416 : decode code 416 = .ok (.invokevirtual 65, 3) := by decide +kernel
theorem d_Lw_law_419 : decode code 419 = .ok (.aload_n 2, 1) := by decide +kernel
theorem d_Lw_law_420 : decode code 420 = .ok (.aload_n 0, 1) := by decide +kernel
theorem d_Lw_law_421 : decode code 421 = .ok (.iload_n 3, 1) := by decide +kernel
theorem d_Lw_law_422 : decode code 422 = .ok (.iconst 1, 1) := by decide +kernel
theorem d_Lw_law_423 : decode code 423 = .ok (.iadd, 1) := by decide +kernel
theorem d_Lw_law_424 : decode code 424 = .ok (.iaload, 1) := by decide +kernel
theorem d_Lw_law_425 : decode code 425 = .ok (.invokevirtual 68, 3) := by decide +kernel
theorem d_Lw_law_428 : decode code 428 = .ok (.if_icmp .eq 163, 3) := by decide +kernel
theorem d_Lw_law_431 : decode code 431 = .ok (.iconst 0, 1) := by decide +kernel
theorem d_Lw_law_432 : decode code 432 = .ok (.ireturn, 1) := by decide +kernel
theorem d_Lw_law_433 : decode code 433 = .ok (.aload_n 1, 1) := by decide +kernel
theorem d_Lw_law_434 : decode code 434 = .ok (.aload_n 0, 1) := by decide +kernel
theorem d_Lw_law_435 : decode code 435 = .ok (.iload_n 3, 1) := by decide +kernel
theorem d_Lw_law_436 : decode code 436 = .ok (.iconst 1, 1) := by decide +kernel
theorem d_Lw_law_437 : decode code 437 = .ok (.iadd, 1) := by decide +kernel
theorem d_Lw_law_438 : decode code 438 = .ok (.iaload, 1) := by decide +kernel
theorem d_Lw_law_439 : decode code 439 = .ok (.aload_n 0, 1) := by decide +kernel
theorem d_Lw_law_440 : decode code 440 = .ok (.iload_n 3, 1) := by decide +kernel
theorem d_Lw_law_441 : decode code 441 = .ok (.iconst 2, 1) := by decide +kernel
theorem d_Lw_law_442 : decode code 442 = .ok (.iadd, 1) := by decide +kernel
theorem d_Lw_law_443 : decode code 443 = .ok (.iaload, 1) := by decide +kernel
theorem d_Lw_law_444 : decode code 444 = .ok (.invokevirtual 69, 3) := by decide +kernel
theorem d_Lw_law_447 : decode code 447 = .ok (.aload_n 2, 1) := by decide +kernel
theorem d_Lw_law_448 : decode code 448 = .ok (.aload_n 0, 1) := by decide +kernel
theorem d_Lw_law_449 : decode code 449 = .ok (.iload_n 3, 1) := by decide +kernel
theorem d_Lw_law_450 : decode code 450 = .ok (.iconst 1, 1) := by decide +kernel
theorem d_Lw_law_451 : decode code 451 = .ok (.iadd, 1) := by decide +kernel
theorem d_Lw_law_452 : decode code 452 = .ok (.iaload, 1) := by decide +kernel
theorem d_Lw_law_453 : decode code 453 = .ok (.aload_n 0, 1) := by decide +kernel
theorem d_Lw_law_454 : decode code 454 = .ok (.iload_n 3, 1) := by decide +kernel
theorem d_Lw_law_455 : decode code 455 = .ok (.iconst 2, 1) := by decide +kernel
theorem d_Lw_law_456 : decode code 456 = .ok (.iadd, 1) := by decide +kernel
theorem d_Lw_law_457 : decode code 457 = .ok (.iaload, 1) := by decide +kernel
theorem d_Lw_law_458 : decode code 458 = .ok (.invokevirtual 72, 3) := by decide +kernel
theorem d_Lw_law_461 : decode code 461 = .ok (.if_icmp .eq 130, 3) := by decide +kernel
theorem d_Lw_law_464 : decode code 464 = .ok (.iconst 0, 1) := by decide +kernel
theorem d_Lw_law_465 : decode code 465 = .ok (.ireturn, 1) := by decide +kernel
theorem d_Lw_law_466 : decode code 466 = .ok (.aload_n 1, 1) := by decide +kernel
theorem d_Lw_law_467 : decode code 467 = .ok (.aload_n 0, 1) := by decide +kernel
theorem d_Lw_law_468 : decode code 468 = .ok (.iload_n 3, 1) := by decide +kernel
theorem d_Lw_law_469 : decode code 469 = .ok (.iconst 1, 1) := by decide +kernel
theorem d_Lw_law_470 : decode code 470 = .ok (.iadd, 1) := by decide +kernel
theorem d_Lw_law_471 : decode code 471 = .ok (.iaload, 1) := by decide +kernel
theorem d_Lw_law_472 : decode code 472 = .ok (.aload_n 0, 1) := by decide +kernel
theorem d_Lw_law_473 : decode code 473 = .ok (.iload_n 3, 1) := by decide +kernel
theorem d_Lw_law_474 : decode code 474 = .ok (.iconst 2, 1) := by decide +kernel
theorem d_Lw_law_475 : decode code 475 = .ok (.iadd, 1) := by decide +kernel
theorem d_Lw_law_476 : decode code 476 = .ok (.iaload, 1) := by decide +kernel
theorem d_Lw_law_477 : decode code 477 = .ok (.aload_n 0, 1) := by decide +kernel
theorem d_Lw_law_478 : decode code 478 = .ok (.iload_n 3, 1) := by decide +kernel
theorem d_Lw_law_479 : decode code 479 = .ok (.iconst 3, 1) := by decide +kernel
theorem d_Lw_law_480 : decode code 480 = .ok (.iadd, 1) := by decide +kernel
theorem d_Lw_law_481 : decode code 481 = .ok (.iaload, 1) := by decide +kernel
theorem d_Lw_law_482 : decode code 482 = .ok (.invokevirtual 73, 3) := by decide +kernel
theorem d_Lw_law_485 : decode code 485 = .ok (.aload_n 2, 1) := by decide +kernel
theorem d_Lw_law_486 : decode code 486 = .ok (.aload_n 0, 1) := by decide +kernel
theorem d_Lw_law_487 : decode code 487 = .ok (.iload_n 3, 1) := by decide +kernel
theorem d_Lw_law_488 : decode code 488 = .ok (.iconst 1, 1) := by decide +kernel
theorem d_Lw_law_489 : decode code 489 = .ok (.iadd, 1) := by decide +kernel
theorem d_Lw_law_490 : decode code 490 = .ok (.iaload, 1) := by decide +kernel
theorem d_Lw_law_491 : decode code 491 = .ok (.aload_n 0, 1) := by decide +kernel
theorem d_Lw_law_492 : decode code 492 = .ok (.iload_n 3, 1) := by decide +kernel
theorem d_Lw_law_493 : decode code 493 = .ok (.iconst 2, 1) := by decide +kernel
theorem d_Lw_law_494 : decode code 494 = .ok (.iadd, 1) := by decide +kernel
theorem d_Lw_law_495 : decode code 495 = .ok (.iaload, 1) := by decide +kernel
theorem d_Lw_law_496 : decode code 496 = .ok (.aload_n 0, 1) := by decide +kernel
theorem d_Lw_law_497 : decode code 497 = .ok (.iload_n 3, 1) := by decide +kernel
theorem d_Lw_law_498 : decode code 498 = .ok (.iconst 3, 1) := by decide +kernel
theorem d_Lw_law_499 : decode code 499 = .ok (.iadd, 1) := by decide +kernel
theorem d_Lw_law_500 : decode code 500 = .ok (.iaload, 1) := by decide +kernel
theorem d_Lw_law_501 : decode code 501 = .ok (.invokevirtual 76, 3) := by decide +kernel
theorem d_Lw_law_504 : decode code 504 = .ok (.if_icmp .eq 87, 3) := by decide +kernel
theorem d_Lw_law_507 : decode code 507 = .ok (.iconst 0, 1) := by decide +kernel
theorem d_Lw_law_508 : decode code 508 = .ok (.ireturn, 1) := by decide +kernel
theorem d_Lw_law_509 : decode code 509 = .ok (.aload_n 1, 1) := by decide +kernel
theorem d_Lw_law_510 : decode code 510 = .ok (.invokevirtual 77, 3) := by decide +kernel
theorem d_Lw_law_513 : decode code 513 = .ok (.aload_n 2, 1) := by decide +kernel
theorem d_Lw_law_514 : decode code 514 = .ok (.invokevirtual 80, 3) := by decide +kernel
theorem d_Lw_law_517 : decode code 517 = .ok (.if_icmp .eq 74, 3) := by decide +kernel
theorem d_Lw_law_520 : decode code 520 = .ok (.iconst 0, 1) := by decide +kernel
theorem d_Lw_law_521 : decode code 521 = .ok (.ireturn, 1) := by decide +kernel
theorem d_Lw_law_522 : decode code 522 = .ok (.aload_n 1, 1) := by decide +kernel
theorem d_Lw_law_523 : decode code 523 = .ok (.invokevirtual 81, 3) := by decide +kernel
theorem d_Lw_law_526 : decode code 526 = .ok (.aload_n 2, 1) := by decide +kernel
theorem d_Lw_law_527 : decode code 527 = .ok (.invokevirtual 84, 3) := by decide +kernel
theorem d_Lw_law_530 : decode code 530 = .ok (.if_icmp .eq 61, 3) := by decide +kernel
theorem d_Lw_law_533 : decode code 533 = .ok (.iconst 0, 1) := by decide +kernel
theorem d_Lw_law_534 : decode code 534 = .ok (.ireturn, 1) := by decide +kernel
theorem d_Lw_law_535 : decode code 535 = .ok (.aload_n 1, 1) := by decide +kernel
theorem d_Lw_law_536 : decode code 536 = .ok (.aload_n 0, 1) := by decide +kernel
theorem d_Lw_law_537 : decode code 537 = .ok (.iload_n 3, 1) := by decide +kernel
theorem d_Lw_law_538 : decode code 538 = .ok (.iconst 1, 1) := by decide +kernel
theorem d_Lw_law_539 : decode code 539 = .ok (.iadd, 1) := by decide +kernel
theorem d_Lw_law_540 : decode code 540 = .ok (.iaload, 1) := by decide +kernel
theorem d_Lw_law_541 : decode code 541 = .ok (.invokevirtual 85, 3) := by decide +kernel
theorem d_Lw_law_544 : decode code 544 = .ok (.aload_n 2, 1) := by decide +kernel
theorem d_Lw_law_545 : decode code 545 = .ok (.aload_n 0, 1) := by decide +kernel
theorem d_Lw_law_546 : decode code 546 = .ok (.iload_n 3, 1) := by decide +kernel
theorem d_Lw_law_547 : decode code 547 = .ok (.iconst 1, 1) := by decide +kernel
theorem d_Lw_law_548 : decode code 548 = .ok (.iadd, 1) := by decide +kernel
theorem d_Lw_law_549 : decode code 549 = .ok (.iaload, 1) := by decide +kernel
theorem d_Lw_law_550 : decode code 550 = .ok (.invokevirtual 88, 3) := by decide +kernel
theorem d_Lw_law_553 : decode code 553 = .ok (.if_icmp .eq 38, 3) := by decide +kernel
theorem d_Lw_law_556 : decode code 556 = .ok (.iconst 0, 1) := by decide +kernel
theorem d_Lw_law_557 : decode code 557 = .ok (.ireturn, 1) := by decide +kernel
theorem d_Lw_law_558 : decode code 558 = .ok (.aload_n 1, 1) := by decide +kernel
theorem d_Lw_law_559 : decode code 559 = .ok (.aload_n 0, 1) := by decide +kernel
theorem d_Lw_law_560 : decode code 560 = .ok (.iload_n 3, 1) := by decide +kernel
theorem d_Lw_law_561 : decode code 561 = .ok (.iconst 1, 1) := by decide +kernel
theorem d_Lw_law_562 : decode code 562 = .ok (.iadd, 1) := by decide +kernel
theorem d_Lw_law_563 : decode code 563 = .ok (.iaload, 1) := by decide +kernel
theorem d_Lw_law_564 : decode code 564 = .ok (.aload_n 0, 1) := by decide +kernel
theorem d_Lw_law_565 : decode code 565 = .ok (.iload_n 3, 1) := by decide +kernel
theorem d_Lw_law_566 : decode code 566 = .ok (.iconst 2, 1) := by decide +kernel
theorem d_Lw_law_567 : decode code 567 = .ok (.iadd, 1) := by decide +kernel
theorem d_Lw_law_568 : decode code 568 = .ok (.iaload, 1) := by decide +kernel
theorem d_Lw_law_569 : decode code 569 = .ok (.invokevirtual 89, 3) := by decide +kernel
theorem d_Lw_law_572 : decode code 572 = .ok (.aload_n 2, 1) := by decide +kernel
theorem d_Lw_law_573 : decode code 573 = .ok (.aload_n 0, 1) := by decide +kernel
theorem d_Lw_law_574 : decode code 574 = .ok (.iload_n 3, 1) := by decide +kernel
theorem d_Lw_law_575 : decode code 575 = .ok (.iconst 1, 1) := by decide +kernel
theorem d_Lw_law_576 : decode code 576 = .ok (.iadd, 1) := by decide +kernel
theorem d_Lw_law_577 : decode code 577 = .ok (.iaload, 1) := by decide +kernel
theorem d_Lw_law_578 : decode code 578 = .ok (.aload_n 0, 1) := by decide +kernel
theorem d_Lw_law_579 : decode code 579 = .ok (.iload_n 3, 1) := by decide +kernel
theorem d_Lw_law_580 : decode code 580 = .ok (.iconst 2, 1) := by decide +kernel
theorem d_Lw_law_581 : decode code 581 = .ok (.iadd, 1) := by decide +kernel
theorem d_Lw_law_582 : decode code 582 = .ok (.iaload, 1) := by decide +kernel
theorem d_Lw_law_583 : decode code 583 = .ok (.invokevirtual 92, 3) := by decide +kernel
theorem d_Lw_law_586 : decode code 586 = .ok (.if_icmp .eq 5, 3) := by decide +kernel
theorem d_Lw_law_589 : decode code 589 = .ok (.iconst 0, 1) := by decide +kernel
theorem d_Lw_law_590 : decode code 590 = .ok (.ireturn, 1) := by decide +kernel
theorem d_Lw_law_591 : decode code 591 = .ok (.iinc 3 4, 3) := by decide +kernel
theorem d_Lw_law_594 : decode code 594 = .ok (.goto (-576), 3) := by decide +kernel
theorem d_Lw_law_597 : decode code 597 = .ok (.iconst 1, 1) := by decide +kernel
theorem d_Lw_law_598 : decode code 598 = .ok (.ireturn, 1) := by decide +kernel
noncomputable def bk_Lw_law_18 (L : Nat) (xs : Nat → Int32) : List Int32 → List Int64 → tq_S → Option tq_C
  | [x3], [], σ => if ((Int32.ofNat L) - 4) < x3 then some (tq_rt, [1], [], σ) else tq_gd x3 L (tq_lj ((xs x3.toNatClampNeg) &&& 31) (fun v3 => if v3 = 0 then tq_gd (x3 + 1) L (tq_ob (tq_fI st_Tn_class0 (0, [(xs (x3 + 1).toNatClampNeg)], [], σ)) (fun r6 σ7 => tq_gd (x3 + 1) L (tq_ob (tq_fI st_Mo_class0 (0, [(xs (x3 + 1).toNatClampNeg)], [], σ7)) (fun r10 σ11 => if r6 = r10 then tq_lj (x3 + 4) (fun v13 => some (18, [v13], [], σ11)) else some (tq_rt, [0], [], σ11))))) else if v3 = 1 then tq_gd (x3 + 1) L (tq_gd (x3 + 2) L (tq_gd (x3 + 3) L (tq_ob (tq_fI st_Tn_concept (0, [(xs (x3 + 1).toNatClampNeg), (xs (x3 + 2).toNatClampNeg), (xs (x3 + 3).toNatClampNeg)], [], σ)) (fun r18 σ19 => tq_gd (x3 + 1) L (tq_gd (x3 + 2) L (tq_gd (x3 + 3) L (tq_ob (tq_fI st_Mo_concept (0, [(xs (x3 + 1).toNatClampNeg), (xs (x3 + 2).toNatClampNeg), (xs (x3 + 3).toNatClampNeg)], [], σ19)) (fun r24 σ25 => if r18 = r24 then tq_lj (x3 + 4) (fun v27 => some (18, [v27], [], σ25)) else some (tq_rt, [0], [], σ25))))))))) else if v3 = 2 then tq_gd (x3 + 1) L (tq_gd (x3 + 2) L (tq_ob (tq_fI st_Tn_told (0, [(xs (x3 + 1).toNatClampNeg), (xs (x3 + 2).toNatClampNeg)], [], σ)) (fun r31 σ32 => tq_gd (x3 + 1) L (tq_gd (x3 + 2) L (tq_ob (tq_fI st_Mo_told (0, [(xs (x3 + 1).toNatClampNeg), (xs (x3 + 2).toNatClampNeg)], [], σ32)) (fun r36 σ37 => if r31 = r36 then tq_lj (x3 + 4) (fun v39 => some (18, [v39], [], σ37)) else some (tq_rt, [0], [], σ37))))))) else if v3 = 3 then tq_ob (tq_fI st_Tn_concepts (0, [], [], σ)) (fun r41 σ42 => tq_ob (tq_fI st_Mo_concepts (0, [], [], σ42)) (fun r44 σ45 => if r41 = r44 then tq_lj (x3 + 4) (fun v47 => some (18, [v47], [], σ45)) else some (tq_rt, [0], [], σ45))) else if v3 = 4 then tq_ob (tq_fI st_Tn_atoms (0, [], [], σ)) (fun r49 σ50 => tq_ob (tq_fI st_Mo_atoms (0, [], [], σ50)) (fun r52 σ53 => if r49 = r52 then tq_lj (x3 + 4) (fun v55 => some (18, [v55], [], σ53)) else some (tq_rt, [0], [], σ53))) else if v3 = 5 then tq_gd (x3 + 1) L (tq_gd (x3 + 2) L (tq_ob (tq_fI st_Tn_axiom (0, [(xs (x3 + 1).toNatClampNeg), (xs (x3 + 2).toNatClampNeg)], [], σ)) (fun r59 σ60 => tq_gd (x3 + 1) L (tq_gd (x3 + 2) L (tq_ob (tq_fI st_Mo_axiom (0, [(xs (x3 + 1).toNatClampNeg), (xs (x3 + 2).toNatClampNeg)], [], σ60)) (fun r64 σ65 => if r59 = r64 then tq_lj (x3 + 4) (fun v67 => some (18, [v67], [], σ65)) else some (tq_rt, [0], [], σ65))))))) else if v3 = 6 then tq_ob (tq_fI st_Tn_drop (0, [], [], σ)) (fun r69 σ70 => tq_ob (tq_fI st_Mo_drop (0, [], [], σ70)) (fun r72 σ73 => if r69 = r72 then tq_lj (x3 + 4) (fun v75 => some (18, [v75], [], σ73)) else some (tq_rt, [0], [], σ73))) else if v3 = 7 then tq_gd (x3 + 1) L (tq_gd (x3 + 2) L (tq_ob (tq_fI st_Tn_role (0, [(xs (x3 + 1).toNatClampNeg), (xs (x3 + 2).toNatClampNeg)], [], σ)) (fun r79 σ80 => tq_gd (x3 + 1) L (tq_gd (x3 + 2) L (tq_ob (tq_fI st_Mo_role (0, [(xs (x3 + 1).toNatClampNeg), (xs (x3 + 2).toNatClampNeg)], [], σ80)) (fun r84 σ85 => if r79 = r84 then tq_lj (x3 + 4) (fun v87 => some (18, [v87], [], σ85)) else some (tq_rt, [0], [], σ85))))))) else if v3 = 8 then tq_gd (x3 + 1) L (tq_ob (tq_fI st_Tn_can (0, [(xs (x3 + 1).toNatClampNeg)], [], σ)) (fun r90 σ91 => tq_gd (x3 + 1) L (tq_ob (tq_fI st_Mo_can (0, [(xs (x3 + 1).toNatClampNeg)], [], σ91)) (fun r94 σ95 => if r90 = r94 then tq_lj (x3 + 4) (fun v97 => some (18, [v97], [], σ95)) else some (tq_rt, [0], [], σ95))))) else if v3 = 9 then tq_gd (x3 + 1) L (tq_gd (x3 + 2) L (tq_ob (tq_fI st_Tn_below (0, [(xs (x3 + 1).toNatClampNeg), (xs (x3 + 2).toNatClampNeg)], [], σ)) (fun r101 σ102 => tq_gd (x3 + 1) L (tq_gd (x3 + 2) L (tq_ob (tq_fI st_Mo_below (0, [(xs (x3 + 1).toNatClampNeg), (xs (x3 + 2).toNatClampNeg)], [], σ102)) (fun r106 σ107 => if r101 = r106 then tq_lj (x3 + 4) (fun v109 => some (18, [v109], [], σ107)) else some (tq_rt, [0], [], σ107))))))) else if v3 = 10 then tq_ob (tq_fI st_Tn_types (0, [], [], σ)) (fun r111 σ112 => tq_ob (tq_fI st_Mo_types (0, [], [], σ112)) (fun r114 σ115 => if r111 = r114 then tq_lj (x3 + 4) (fun v117 => some (18, [v117], [], σ115)) else some (tq_rt, [0], [], σ115))) else if v3 = 11 then tq_ob (tq_fI st_Tn_rounds (0, [], [], σ)) (fun r119 σ120 => tq_ob (tq_fI st_Mo_rounds (0, [], [], σ120)) (fun r122 σ123 => if r119 = r122 then tq_lj (x3 + 4) (fun v125 => some (18, [v125], [], σ123)) else some (tq_rt, [0], [], σ123))) else if v3 = 12 then tq_gd (x3 + 1) L (tq_ob (tq_fI st_Tn_depth (0, [(xs (x3 + 1).toNatClampNeg)], [], σ)) (fun r128 σ129 => tq_gd (x3 + 1) L (tq_ob (tq_fI st_Mo_depth (0, [(xs (x3 + 1).toNatClampNeg)], [], σ129)) (fun r132 σ133 => if r128 = r132 then tq_lj (x3 + 4) (fun v135 => some (18, [v135], [], σ133)) else some (tq_rt, [0], [], σ133))))) else if v3 = 13 then tq_gd (x3 + 1) L (tq_gd (x3 + 2) L (tq_ob (tq_fI st_Tn_individual (0, [(xs (x3 + 1).toNatClampNeg), (xs (x3 + 2).toNatClampNeg)], [], σ)) (fun r139 σ140 => tq_gd (x3 + 1) L (tq_gd (x3 + 2) L (tq_ob (tq_fI st_Mo_individual (0, [(xs (x3 + 1).toNatClampNeg), (xs (x3 + 2).toNatClampNeg)], [], σ140)) (fun r144 σ145 => if r139 = r144 then tq_lj (x3 + 4) (fun v147 => some (18, [v147], [], σ145)) else some (tq_rt, [0], [], σ145))))))) else if v3 = 14 then tq_gd (x3 + 1) L (tq_gd (x3 + 2) L (tq_gd (x3 + 3) L (tq_ob (tq_fI st_Tn_has (0, [(xs (x3 + 1).toNatClampNeg), (xs (x3 + 2).toNatClampNeg), (xs (x3 + 3).toNatClampNeg)], [], σ)) (fun r152 σ153 => tq_gd (x3 + 1) L (tq_gd (x3 + 2) L (tq_gd (x3 + 3) L (tq_ob (tq_fI st_Mo_has (0, [(xs (x3 + 1).toNatClampNeg), (xs (x3 + 2).toNatClampNeg), (xs (x3 + 3).toNatClampNeg)], [], σ153)) (fun r158 σ159 => if r152 = r158 then tq_lj (x3 + 4) (fun v161 => some (18, [v161], [], σ159)) else some (tq_rt, [0], [], σ159))))))))) else if v3 = 15 then tq_ob (tq_fI st_Tn_forget (0, [], [], σ)) (fun r163 σ164 => tq_ob (tq_fI st_Mo_forget (0, [], [], σ164)) (fun r166 σ167 => if r163 = r166 then tq_lj (x3 + 4) (fun v169 => some (18, [v169], [], σ167)) else some (tq_rt, [0], [], σ167))) else if v3 = 16 then tq_ob (tq_fI st_Tn_run (0, [], [], σ)) (fun r171 σ172 => tq_ob (tq_fI st_Mo_run (0, [], [], σ172)) (fun r174 σ175 => if r171 = r174 then tq_lj (x3 + 4) (fun v177 => some (18, [v177], [], σ175)) else some (tq_rt, [0], [], σ175))) else if v3 = 17 then tq_gd (x3 + 1) L (tq_ob (tq_fI st_Tn_model (0, [(xs (x3 + 1).toNatClampNeg)], [], σ)) (fun r180 σ181 => tq_gd (x3 + 1) L (tq_ob (tq_fI st_Mo_model (0, [(xs (x3 + 1).toNatClampNeg)], [], σ181)) (fun r184 σ185 => if r180 = r184 then tq_lj (x3 + 4) (fun v187 => some (18, [v187], [], σ185)) else some (tq_rt, [0], [], σ185))))) else if v3 = 18 then tq_gd (x3 + 1) L (tq_gd (x3 + 2) L (tq_ob (tq_fI st_Tn_surely (0, [(xs (x3 + 1).toNatClampNeg), (xs (x3 + 2).toNatClampNeg)], [], σ)) (fun r191 σ192 => tq_gd (x3 + 1) L (tq_gd (x3 + 2) L (tq_ob (tq_fI st_Mo_surely (0, [(xs (x3 + 1).toNatClampNeg), (xs (x3 + 2).toNatClampNeg)], [], σ192)) (fun r196 σ197 => if r191 = r196 then tq_lj (x3 + 4) (fun v199 => some (18, [v199], [], σ197)) else some (tq_rt, [0], [], σ197))))))) else tq_lj (x3 + 4) (fun v200 => some (18, [v200], [], σ))))
  | _, _, _ => none
noncomputable def st_Lw_law (L : Nat) (xs : Nat → Int32) (c : tq_C) : Option tq_C := if c.1 = 18 then bk_Lw_law_18 L xs c.2.1 c.2.2.1 c.2.2.2 else none
set_option maxHeartbeats 40000000 in
set_option maxRecDepth 100000 in
theorem law_key {p : Program} {l : Launch} {e : Env} {s : State} {m : MethodId} {below : List Frame} {meth : Method} {c : Code} {dC : Nat → ClassId} {dI : Nat → Nat → Nat} {cI cL cZ : ClassId} {ad : Nat → Nat} {tt b L : Nat} {xs : Nat → Int32} {σ' : tq_S} (C0 : lw_At p s m meth c b L xs) (hK : va_K (dC, dI) tq_cl (tq_ty cI cL cZ) s) (hZ : tq_Z tt (fun q : Nat => s.heap.size ≤ q) s s.heap) (hN : tq_N s) : ∀ (n : Nat) {x3 : Int32} {σ : tq_S} {H : Heap} {locs : List Loc} {ls : Array Slot}, va_P (dC, dI) tq_cl (wo cI cL cZ ad σ) H → va_D (fun q : Nat => s.heap.size ≤ q) (wo cI cL cZ ad σ) → va_S (fun q : Nat => s.heap.size ≤ q) s.heap H locs → lv_has ls 4 [(0, .ref b), (1, .ref (ad 0)), (2, .ref (ad 5)), (3, .int x3)] → tq_go (st_Lw_law L xs) n (18, [x3], [], σ) = some (tq_rt, [1], [], σ') → W p l e room_1 s m #[Value.ref b] below meth c H locs 48 124822 (lw_Z below #[Value.ref b] s) (F0 m 18 ls []) := by
  obtain ⟨hx, hb, hr, hml, hown, hts0, hX, hbl, hlocks, hgv⟩ := C0
  have hts : ∀ w ∈ tq_T, w.before #[Value.ref b] s = true := fun w h => hts0 w (List.mem_filter.mp h).1
  have hA : ∀ q : Nat, s.heap.size ≤ q → (fun q : Nat => s.heap.size ≤ q) q := fun _ h => h
  have hbA : ¬ (fun q : Nat => s.heap.size ≤ q) b := Nat.not_le.mpr hbl
  intro n
  induction n with
  | zero => intro x3 σ H locs ls _ _ _ _ h; cases h
  | succ n ih =>
    intro x3 σ H locs ls hP hD hS hl h9
    obtain ⟨q9, hg, hn⟩ := tq_go_s h9 (show ¬ (18 : Nat) = tq_rt by decide)
    replace hg : bk_Lw_law_18 L xs [x3] [] σ = some q9 := hg
    unfold bk_Lw_law_18 at hg
    refine lv_iload_n hx hb d_Lw_law_18 rfl (lv_at hl 3 rfl) ?_
    refine lv_aload_n hx hb d_Lw_law_19 rfl (lv_at hl 0 rfl) ?_
    refine va_slen hx hb hX hbl hbA hS d_Lw_law_20 ?_
    refine lv_iconst (v := 4) hx hb d_Lw_law_21 (by decide) ?_
    refine lv_isub hx hb d_Lw_law_22 ?_
    refine lv_icmp_gt (tgt := 597) hx hb d_Lw_law_23 (by decide) (fun c1 => ?_) (fun c1 => ?_)
    · replace hg := tq_if_t c1 hg
      refine lv_iconst (v := 1) hx hb d_Lw_law_597 (by decide) ?_
      refine va_forget (fun q hq => hS.2.2 q hq) ?_
      refine W.widen (k := 600000) (n := 7302250) (Nat.le_of_ble_eq_true rfl) (Nat.le_of_ble_eq_true rfl) ?_
      exact lw_ret hx hb hr hlocks d_Lw_law_598
    · replace hg := tq_if_f c1 hg
      refine lv_aload_n hx hb d_Lw_law_26 rfl (lv_at hl 0 rfl) ?_
      refine lv_iload_n hx hb d_Lw_law_27 rfl (lv_at hl 3 rfl) ?_
      obtain ⟨g2, hg⟩ := tq_gd_s hg
      refine va_sld hx hb hX hbl hbA hS g2 d_Lw_law_28 ?_
      refine lv_bipush (v := 31) hx hb d_Lw_law_29 (by decide) ?_
      refine lv_iand hx hb d_Lw_law_31 ?_
      obtain ⟨v3, ev3, hg⟩ := tq_lj_s hg
      refine tq_nmi ev3 ?_
      by_cases w201_0 : v3 = 0
      · replace hg := tq_if_t w201_0 hg
        refine lv_tableIn (tgt := 124) hx hb d_Lw_law_32 (by rw [w201_0]; decide) (by rw [w201_0]; decide) (by rw [w201_0]; rfl) (by decide) ?_
        refine lv_aload_n hx hb d_Lw_law_124 rfl (lv_at hl 1 rfl) ?_
        refine lv_aload_n hx hb d_Lw_law_125 rfl (lv_at hl 0 rfl) ?_
        refine lv_iload_n hx hb d_Lw_law_126 rfl (lv_at hl 3 rfl) ?_
        refine lv_iconst (v := 1) hx hb d_Lw_law_127 (by decide) ?_
        refine lv_iadd hx hb d_Lw_law_128 ?_
        obtain ⟨g4, hg⟩ := tq_gd_s hg
        refine va_sld hx hb hX hbl hbA hS g4 d_Lw_law_129 ?_
        obtain ⟨r6, σ7, f5, hg⟩ := tq_ob_s hg
        refine tq_aI (va_runV (As := [.int (xs (x3 + 1).toNatClampNeg)]) (rest := []) ⟨hx, hb, hml, hown, hts⟩ (c_Tn_class0 l dC dI cI cL cZ ad tt H.size σ (xs (x3 + 1).toNatClampNeg)  r6 σ7 f5) (cwV 1 hts (tq_gV tw_233 tw_234 tw_235 tw_1 tw_236) rfl rfl rfl (by decide +kernel) ⟨Nat.le_of_ble_eq_true rfl, Nat.le_of_ble_eq_true rfl⟩) ⟨tq_bl, va_recv hK hP (ci := 0) (q0 := 0) rfl rfl, (tq_pr hP hK hD hS hA hZ hN)⟩ rfl rfl hl.1 rfl (lv_room (Nat.le_of_ble_eq_true rfl)) d_Lw_law_130 ⟨Nat.le_of_ble_eq_true rfl, Nat.le_of_ble_eq_true rfl⟩) hD hS hA (fun H locs hP hD hS => ?_)
        refine lv_aload_n hx hb d_Lw_law_133 rfl (lv_at hl 2 rfl) ?_
        refine lv_aload_n hx hb d_Lw_law_134 rfl (lv_at hl 0 rfl) ?_
        refine lv_iload_n hx hb d_Lw_law_135 rfl (lv_at hl 3 rfl) ?_
        refine lv_iconst (v := 1) hx hb d_Lw_law_136 (by decide) ?_
        refine lv_iadd hx hb d_Lw_law_137 ?_
        obtain ⟨g8, hg⟩ := tq_gd_s hg
        refine va_sld hx hb hX hbl hbA hS g8 d_Lw_law_138 ?_
        obtain ⟨r10, σ11, f9, hg⟩ := tq_ob_s hg
        refine tq_aI (va_runV (As := [.int (xs (x3 + 1).toNatClampNeg)]) (rest := [.int r6]) ⟨hx, hb, hml, hown, hts⟩ (c_Mo_class0 l dC dI cI cL cZ ad tt H.size σ7 (xs (x3 + 1).toNatClampNeg)  r10 σ11 f9) (cwV 1 hts (tq_gV tw_676 tw_677 tw_678 tw_6 tw_679) rfl rfl rfl (by decide +kernel) ⟨Nat.le_of_ble_eq_true rfl, Nat.le_of_ble_eq_true rfl⟩) ⟨tq_bl, va_recv hK hP (ci := 5) (q0 := 5) rfl rfl, (tq_pr hP hK hD hS hA hZ hN)⟩ rfl rfl hl.1 rfl (lv_room (Nat.le_of_ble_eq_true rfl)) d_Lw_law_139 ⟨Nat.le_of_ble_eq_true rfl, Nat.le_of_ble_eq_true rfl⟩) hD hS hA (fun H locs hP hD hS => ?_)
        refine lv_icmp_eq (tgt := 591) hx hb d_Lw_law_142 (by decide) (fun c12 => ?_) (fun c12 => ?_)
        · replace hg := tq_if_t c12 hg
          obtain ⟨v13, ev13, hg⟩ := tq_lj_s hg
          refine lv_iinc (v := v13) (lv' := [(3, .int v13), (0, .ref b), (1, .ref (ad 0)), (2, .ref (ad 5))]) hx hb d_Lw_law_591 hl (k := 3) rfl (by rw [ev13]; rfl) (by decide) rfl (fun ls hl => ?_)
          refine lv_goto (tgt := 18) hx hb d_Lw_law_594 (by decide) ?_
          exact ih hP hD hS (lv_sub hl [1, 2, 3, 0] rfl) (tq_gi hg hn)
        · replace hg := tq_if_f c12 hg
          refine lv_iconst (v := 0) hx hb d_Lw_law_145 (by decide) ?_
          exact absurd (tq_grI hg hn).1 (by decide)
      replace hg := tq_if_f w201_0 hg
      by_cases w201_1 : v3 = 1
      · replace hg := tq_if_t w201_1 hg
        refine lv_tableIn (tgt := 147) hx hb d_Lw_law_32 (by rw [w201_1]; decide) (by rw [w201_1]; decide) (by rw [w201_1]; rfl) (by decide) ?_
        refine lv_aload_n hx hb d_Lw_law_147 rfl (lv_at hl 1 rfl) ?_
        refine lv_aload_n hx hb d_Lw_law_148 rfl (lv_at hl 0 rfl) ?_
        refine lv_iload_n hx hb d_Lw_law_149 rfl (lv_at hl 3 rfl) ?_
        refine lv_iconst (v := 1) hx hb d_Lw_law_150 (by decide) ?_
        refine lv_iadd hx hb d_Lw_law_151 ?_
        obtain ⟨g14, hg⟩ := tq_gd_s hg
        refine va_sld hx hb hX hbl hbA hS g14 d_Lw_law_152 ?_
        refine lv_aload_n hx hb d_Lw_law_153 rfl (lv_at hl 0 rfl) ?_
        refine lv_iload_n hx hb d_Lw_law_154 rfl (lv_at hl 3 rfl) ?_
        refine lv_iconst (v := 2) hx hb d_Lw_law_155 (by decide) ?_
        refine lv_iadd hx hb d_Lw_law_156 ?_
        obtain ⟨g15, hg⟩ := tq_gd_s hg
        refine va_sld hx hb hX hbl hbA hS g15 d_Lw_law_157 ?_
        refine lv_aload_n hx hb d_Lw_law_158 rfl (lv_at hl 0 rfl) ?_
        refine lv_iload_n hx hb d_Lw_law_159 rfl (lv_at hl 3 rfl) ?_
        refine lv_iconst (v := 3) hx hb d_Lw_law_160 (by decide) ?_
        refine lv_iadd hx hb d_Lw_law_161 ?_
        obtain ⟨g16, hg⟩ := tq_gd_s hg
        refine va_sld hx hb hX hbl hbA hS g16 d_Lw_law_162 ?_
        obtain ⟨r18, σ19, f17, hg⟩ := tq_ob_s hg
        refine tq_aI (va_runV (As := [.int (xs (x3 + 1).toNatClampNeg), .int (xs (x3 + 2).toNatClampNeg), .int (xs (x3 + 3).toNatClampNeg)]) (rest := []) ⟨hx, hb, hml, hown, hts⟩ (c_Tn_concept l dC dI cI cL cZ ad tt H.size σ (xs (x3 + 1).toNatClampNeg) (xs (x3 + 2).toNatClampNeg) (xs (x3 + 3).toNatClampNeg)  r18 σ19 f17) (cwV 3 hts (tq_gV tw_241 tw_242 tw_243 tw_1 tw_244) rfl rfl rfl (by decide +kernel) ⟨Nat.le_of_ble_eq_true rfl, Nat.le_of_ble_eq_true rfl⟩) ⟨tq_bl, va_recv hK hP (ci := 0) (q0 := 0) rfl rfl, (tq_pr hP hK hD hS hA hZ hN)⟩ rfl rfl hl.1 rfl (lv_room (Nat.le_of_ble_eq_true rfl)) d_Lw_law_163 ⟨Nat.le_of_ble_eq_true rfl, Nat.le_of_ble_eq_true rfl⟩) hD hS hA (fun H locs hP hD hS => ?_)
        refine lv_aload_n hx hb d_Lw_law_166 rfl (lv_at hl 2 rfl) ?_
        refine lv_aload_n hx hb d_Lw_law_167 rfl (lv_at hl 0 rfl) ?_
        refine lv_iload_n hx hb d_Lw_law_168 rfl (lv_at hl 3 rfl) ?_
        refine lv_iconst (v := 1) hx hb d_Lw_law_169 (by decide) ?_
        refine lv_iadd hx hb d_Lw_law_170 ?_
        obtain ⟨g20, hg⟩ := tq_gd_s hg
        refine va_sld hx hb hX hbl hbA hS g20 d_Lw_law_171 ?_
        refine lv_aload_n hx hb d_Lw_law_172 rfl (lv_at hl 0 rfl) ?_
        refine lv_iload_n hx hb d_Lw_law_173 rfl (lv_at hl 3 rfl) ?_
        refine lv_iconst (v := 2) hx hb d_Lw_law_174 (by decide) ?_
        refine lv_iadd hx hb d_Lw_law_175 ?_
        obtain ⟨g21, hg⟩ := tq_gd_s hg
        refine va_sld hx hb hX hbl hbA hS g21 d_Lw_law_176 ?_
        refine lv_aload_n hx hb d_Lw_law_177 rfl (lv_at hl 0 rfl) ?_
        refine lv_iload_n hx hb d_Lw_law_178 rfl (lv_at hl 3 rfl) ?_
        refine lv_iconst (v := 3) hx hb d_Lw_law_179 (by decide) ?_
        refine lv_iadd hx hb d_Lw_law_180 ?_
        obtain ⟨g22, hg⟩ := tq_gd_s hg
        refine va_sld hx hb hX hbl hbA hS g22 d_Lw_law_181 ?_
        obtain ⟨r24, σ25, f23, hg⟩ := tq_ob_s hg
        refine tq_aI (va_runV (As := [.int (xs (x3 + 1).toNatClampNeg), .int (xs (x3 + 2).toNatClampNeg), .int (xs (x3 + 3).toNatClampNeg)]) (rest := [.int r18]) ⟨hx, hb, hml, hown, hts⟩ (c_Mo_concept l dC dI cI cL cZ ad tt H.size σ19 (xs (x3 + 1).toNatClampNeg) (xs (x3 + 2).toNatClampNeg) (xs (x3 + 3).toNatClampNeg)  r24 σ25 f23) (cwV 3 hts (tq_gV tw_688 tw_689 tw_690 tw_6 tw_691) rfl rfl rfl (by decide +kernel) ⟨Nat.le_of_ble_eq_true rfl, Nat.le_of_ble_eq_true rfl⟩) ⟨tq_bl, va_recv hK hP (ci := 5) (q0 := 5) rfl rfl, (tq_pr hP hK hD hS hA hZ hN)⟩ rfl rfl hl.1 rfl (lv_room (Nat.le_of_ble_eq_true rfl)) d_Lw_law_182 ⟨Nat.le_of_ble_eq_true rfl, Nat.le_of_ble_eq_true rfl⟩) hD hS hA (fun H locs hP hD hS => ?_)
        refine lv_icmp_eq (tgt := 591) hx hb d_Lw_law_185 (by decide) (fun c26 => ?_) (fun c26 => ?_)
        · replace hg := tq_if_t c26 hg
          obtain ⟨v27, ev27, hg⟩ := tq_lj_s hg
          refine lv_iinc (v := v27) (lv' := [(3, .int v27), (0, .ref b), (1, .ref (ad 0)), (2, .ref (ad 5))]) hx hb d_Lw_law_591 hl (k := 3) rfl (by rw [ev27]; rfl) (by decide) rfl (fun ls hl => ?_)
          refine lv_goto (tgt := 18) hx hb d_Lw_law_594 (by decide) ?_
          exact ih hP hD hS (lv_sub hl [1, 2, 3, 0] rfl) (tq_gi hg hn)
        · replace hg := tq_if_f c26 hg
          refine lv_iconst (v := 0) hx hb d_Lw_law_188 (by decide) ?_
          exact absurd (tq_grI hg hn).1 (by decide)
      replace hg := tq_if_f w201_1 hg
      by_cases w201_2 : v3 = 2
      · replace hg := tq_if_t w201_2 hg
        refine lv_tableIn (tgt := 190) hx hb d_Lw_law_32 (by rw [w201_2]; decide) (by rw [w201_2]; decide) (by rw [w201_2]; rfl) (by decide) ?_
        refine lv_aload_n hx hb d_Lw_law_190 rfl (lv_at hl 1 rfl) ?_
        refine lv_aload_n hx hb d_Lw_law_191 rfl (lv_at hl 0 rfl) ?_
        refine lv_iload_n hx hb d_Lw_law_192 rfl (lv_at hl 3 rfl) ?_
        refine lv_iconst (v := 1) hx hb d_Lw_law_193 (by decide) ?_
        refine lv_iadd hx hb d_Lw_law_194 ?_
        obtain ⟨g28, hg⟩ := tq_gd_s hg
        refine va_sld hx hb hX hbl hbA hS g28 d_Lw_law_195 ?_
        refine lv_aload_n hx hb d_Lw_law_196 rfl (lv_at hl 0 rfl) ?_
        refine lv_iload_n hx hb d_Lw_law_197 rfl (lv_at hl 3 rfl) ?_
        refine lv_iconst (v := 2) hx hb d_Lw_law_198 (by decide) ?_
        refine lv_iadd hx hb d_Lw_law_199 ?_
        obtain ⟨g29, hg⟩ := tq_gd_s hg
        refine va_sld hx hb hX hbl hbA hS g29 d_Lw_law_200 ?_
        obtain ⟨r31, σ32, f30, hg⟩ := tq_ob_s hg
        refine tq_aI (va_runV (As := [.int (xs (x3 + 1).toNatClampNeg), .int (xs (x3 + 2).toNatClampNeg)]) (rest := []) ⟨hx, hb, hml, hown, hts⟩ (c_Tn_told l dC dI cI cL cZ ad tt H.size σ (xs (x3 + 1).toNatClampNeg) (xs (x3 + 2).toNatClampNeg)  r31 σ32 f30) (cwV 2 hts (tq_gV tw_253 tw_254 tw_255 tw_1 tw_256) rfl rfl rfl (by decide +kernel) ⟨Nat.le_of_ble_eq_true rfl, Nat.le_of_ble_eq_true rfl⟩) ⟨tq_bl, va_recv hK hP (ci := 0) (q0 := 0) rfl rfl, (tq_pr hP hK hD hS hA hZ hN)⟩ rfl rfl hl.1 rfl (lv_room (Nat.le_of_ble_eq_true rfl)) d_Lw_law_201 ⟨Nat.le_of_ble_eq_true rfl, Nat.le_of_ble_eq_true rfl⟩) hD hS hA (fun H locs hP hD hS => ?_)
        refine lv_aload_n hx hb d_Lw_law_204 rfl (lv_at hl 2 rfl) ?_
        refine lv_aload_n hx hb d_Lw_law_205 rfl (lv_at hl 0 rfl) ?_
        refine lv_iload_n hx hb d_Lw_law_206 rfl (lv_at hl 3 rfl) ?_
        refine lv_iconst (v := 1) hx hb d_Lw_law_207 (by decide) ?_
        refine lv_iadd hx hb d_Lw_law_208 ?_
        obtain ⟨g33, hg⟩ := tq_gd_s hg
        refine va_sld hx hb hX hbl hbA hS g33 d_Lw_law_209 ?_
        refine lv_aload_n hx hb d_Lw_law_210 rfl (lv_at hl 0 rfl) ?_
        refine lv_iload_n hx hb d_Lw_law_211 rfl (lv_at hl 3 rfl) ?_
        refine lv_iconst (v := 2) hx hb d_Lw_law_212 (by decide) ?_
        refine lv_iadd hx hb d_Lw_law_213 ?_
        obtain ⟨g34, hg⟩ := tq_gd_s hg
        refine va_sld hx hb hX hbl hbA hS g34 d_Lw_law_214 ?_
        obtain ⟨r36, σ37, f35, hg⟩ := tq_ob_s hg
        refine tq_aI (va_runV (As := [.int (xs (x3 + 1).toNatClampNeg), .int (xs (x3 + 2).toNatClampNeg)]) (rest := [.int r31]) ⟨hx, hb, hml, hown, hts⟩ (c_Mo_told l dC dI cI cL cZ ad tt H.size σ32 (xs (x3 + 1).toNatClampNeg) (xs (x3 + 2).toNatClampNeg)  r36 σ37 f35) (cwV 2 hts (tq_gV tw_699 tw_700 tw_701 tw_6 tw_702) rfl rfl rfl (by decide +kernel) ⟨Nat.le_of_ble_eq_true rfl, Nat.le_of_ble_eq_true rfl⟩) ⟨tq_bl, va_recv hK hP (ci := 5) (q0 := 5) rfl rfl, (tq_pr hP hK hD hS hA hZ hN)⟩ rfl rfl hl.1 rfl (lv_room (Nat.le_of_ble_eq_true rfl)) d_Lw_law_215 ⟨Nat.le_of_ble_eq_true rfl, Nat.le_of_ble_eq_true rfl⟩) hD hS hA (fun H locs hP hD hS => ?_)
        refine lv_icmp_eq (tgt := 591) hx hb d_Lw_law_218 (by decide) (fun c38 => ?_) (fun c38 => ?_)
        · replace hg := tq_if_t c38 hg
          obtain ⟨v39, ev39, hg⟩ := tq_lj_s hg
          refine lv_iinc (v := v39) (lv' := [(3, .int v39), (0, .ref b), (1, .ref (ad 0)), (2, .ref (ad 5))]) hx hb d_Lw_law_591 hl (k := 3) rfl (by rw [ev39]; rfl) (by decide) rfl (fun ls hl => ?_)
          refine lv_goto (tgt := 18) hx hb d_Lw_law_594 (by decide) ?_
          exact ih hP hD hS (lv_sub hl [1, 2, 3, 0] rfl) (tq_gi hg hn)
        · replace hg := tq_if_f c38 hg
          refine lv_iconst (v := 0) hx hb d_Lw_law_221 (by decide) ?_
          exact absurd (tq_grI hg hn).1 (by decide)
      replace hg := tq_if_f w201_2 hg
      by_cases w201_3 : v3 = 3
      · replace hg := tq_if_t w201_3 hg
        refine lv_tableIn (tgt := 223) hx hb d_Lw_law_32 (by rw [w201_3]; decide) (by rw [w201_3]; decide) (by rw [w201_3]; rfl) (by decide) ?_
        refine lv_aload_n hx hb d_Lw_law_223 rfl (lv_at hl 1 rfl) ?_
        obtain ⟨r41, σ42, f40, hg⟩ := tq_ob_s hg
        refine tq_aI (va_runV (As := []) (rest := []) ⟨hx, hb, hml, hown, hts⟩ (c_Tn_concepts l dC dI cI cL cZ ad tt H.size σ   r41 σ42 f40) (cwV 0 hts (tq_gV tw_262 tw_263 tw_264 tw_1 tw_265) rfl rfl rfl (by decide +kernel) ⟨Nat.le_of_ble_eq_true rfl, Nat.le_of_ble_eq_true rfl⟩) ⟨tq_bl, va_recv hK hP (ci := 0) (q0 := 0) rfl rfl, (tq_pr hP hK hD hS hA hZ hN)⟩ rfl rfl hl.1 rfl (lv_room (Nat.le_of_ble_eq_true rfl)) d_Lw_law_224 ⟨Nat.le_of_ble_eq_true rfl, Nat.le_of_ble_eq_true rfl⟩) hD hS hA (fun H locs hP hD hS => ?_)
        refine lv_aload_n hx hb d_Lw_law_227 rfl (lv_at hl 2 rfl) ?_
        obtain ⟨r44, σ45, f43, hg⟩ := tq_ob_s hg
        refine tq_aI (va_runV (As := []) (rest := [.int r41]) ⟨hx, hb, hml, hown, hts⟩ (c_Mo_concepts l dC dI cI cL cZ ad tt H.size σ42   r44 σ45 f43) (cwV 0 hts (tq_gV tw_703 tw_704 tw_705 tw_6 tw_706) rfl rfl rfl (by decide +kernel) ⟨Nat.le_of_ble_eq_true rfl, Nat.le_of_ble_eq_true rfl⟩) ⟨tq_bl, va_recv hK hP (ci := 5) (q0 := 5) rfl rfl, (tq_pr hP hK hD hS hA hZ hN)⟩ rfl rfl hl.1 rfl (lv_room (Nat.le_of_ble_eq_true rfl)) d_Lw_law_228 ⟨Nat.le_of_ble_eq_true rfl, Nat.le_of_ble_eq_true rfl⟩) hD hS hA (fun H locs hP hD hS => ?_)
        refine lv_icmp_eq (tgt := 591) hx hb d_Lw_law_231 (by decide) (fun c46 => ?_) (fun c46 => ?_)
        · replace hg := tq_if_t c46 hg
          obtain ⟨v47, ev47, hg⟩ := tq_lj_s hg
          refine lv_iinc (v := v47) (lv' := [(3, .int v47), (0, .ref b), (1, .ref (ad 0)), (2, .ref (ad 5))]) hx hb d_Lw_law_591 hl (k := 3) rfl (by rw [ev47]; rfl) (by decide) rfl (fun ls hl => ?_)
          refine lv_goto (tgt := 18) hx hb d_Lw_law_594 (by decide) ?_
          exact ih hP hD hS (lv_sub hl [1, 2, 3, 0] rfl) (tq_gi hg hn)
        · replace hg := tq_if_f c46 hg
          refine lv_iconst (v := 0) hx hb d_Lw_law_234 (by decide) ?_
          exact absurd (tq_grI hg hn).1 (by decide)
      replace hg := tq_if_f w201_3 hg
      by_cases w201_4 : v3 = 4
      · replace hg := tq_if_t w201_4 hg
        refine lv_tableIn (tgt := 236) hx hb d_Lw_law_32 (by rw [w201_4]; decide) (by rw [w201_4]; decide) (by rw [w201_4]; rfl) (by decide) ?_
        refine lv_aload_n hx hb d_Lw_law_236 rfl (lv_at hl 1 rfl) ?_
        obtain ⟨r49, σ50, f48, hg⟩ := tq_ob_s hg
        refine tq_aI (va_runV (As := []) (rest := []) ⟨hx, hb, hml, hown, hts⟩ (c_Tn_atoms l dC dI cI cL cZ ad tt H.size σ   r49 σ50 f48) (cwV 0 hts (tq_gV tw_270 tw_271 tw_272 tw_1 tw_273) rfl rfl rfl (by decide +kernel) ⟨Nat.le_of_ble_eq_true rfl, Nat.le_of_ble_eq_true rfl⟩) ⟨tq_bl, va_recv hK hP (ci := 0) (q0 := 0) rfl rfl, (tq_pr hP hK hD hS hA hZ hN)⟩ rfl rfl hl.1 rfl (lv_room (Nat.le_of_ble_eq_true rfl)) d_Lw_law_237 ⟨Nat.le_of_ble_eq_true rfl, Nat.le_of_ble_eq_true rfl⟩) hD hS hA (fun H locs hP hD hS => ?_)
        refine lv_aload_n hx hb d_Lw_law_240 rfl (lv_at hl 2 rfl) ?_
        obtain ⟨r52, σ53, f51, hg⟩ := tq_ob_s hg
        refine tq_aI (va_runV (As := []) (rest := [.int r49]) ⟨hx, hb, hml, hown, hts⟩ (c_Mo_atoms l dC dI cI cL cZ ad tt H.size σ50   r52 σ53 f51) (cwV 0 hts (tq_gV tw_707 tw_708 tw_709 tw_6 tw_710) rfl rfl rfl (by decide +kernel) ⟨Nat.le_of_ble_eq_true rfl, Nat.le_of_ble_eq_true rfl⟩) ⟨tq_bl, va_recv hK hP (ci := 5) (q0 := 5) rfl rfl, (tq_pr hP hK hD hS hA hZ hN)⟩ rfl rfl hl.1 rfl (lv_room (Nat.le_of_ble_eq_true rfl)) d_Lw_law_241 ⟨Nat.le_of_ble_eq_true rfl, Nat.le_of_ble_eq_true rfl⟩) hD hS hA (fun H locs hP hD hS => ?_)
        refine lv_icmp_eq (tgt := 591) hx hb d_Lw_law_244 (by decide) (fun c54 => ?_) (fun c54 => ?_)
        · replace hg := tq_if_t c54 hg
          obtain ⟨v55, ev55, hg⟩ := tq_lj_s hg
          refine lv_iinc (v := v55) (lv' := [(3, .int v55), (0, .ref b), (1, .ref (ad 0)), (2, .ref (ad 5))]) hx hb d_Lw_law_591 hl (k := 3) rfl (by rw [ev55]; rfl) (by decide) rfl (fun ls hl => ?_)
          refine lv_goto (tgt := 18) hx hb d_Lw_law_594 (by decide) ?_
          exact ih hP hD hS (lv_sub hl [1, 2, 3, 0] rfl) (tq_gi hg hn)
        · replace hg := tq_if_f c54 hg
          refine lv_iconst (v := 0) hx hb d_Lw_law_247 (by decide) ?_
          exact absurd (tq_grI hg hn).1 (by decide)
      replace hg := tq_if_f w201_4 hg
      by_cases w201_5 : v3 = 5
      · replace hg := tq_if_t w201_5 hg
        refine lv_tableIn (tgt := 249) hx hb d_Lw_law_32 (by rw [w201_5]; decide) (by rw [w201_5]; decide) (by rw [w201_5]; rfl) (by decide) ?_
        refine lv_aload_n hx hb d_Lw_law_249 rfl (lv_at hl 1 rfl) ?_
        refine lv_aload_n hx hb d_Lw_law_250 rfl (lv_at hl 0 rfl) ?_
        refine lv_iload_n hx hb d_Lw_law_251 rfl (lv_at hl 3 rfl) ?_
        refine lv_iconst (v := 1) hx hb d_Lw_law_252 (by decide) ?_
        refine lv_iadd hx hb d_Lw_law_253 ?_
        obtain ⟨g56, hg⟩ := tq_gd_s hg
        refine va_sld hx hb hX hbl hbA hS g56 d_Lw_law_254 ?_
        refine lv_aload_n hx hb d_Lw_law_255 rfl (lv_at hl 0 rfl) ?_
        refine lv_iload_n hx hb d_Lw_law_256 rfl (lv_at hl 3 rfl) ?_
        refine lv_iconst (v := 2) hx hb d_Lw_law_257 (by decide) ?_
        refine lv_iadd hx hb d_Lw_law_258 ?_
        obtain ⟨g57, hg⟩ := tq_gd_s hg
        refine va_sld hx hb hX hbl hbA hS g57 d_Lw_law_259 ?_
        obtain ⟨r59, σ60, f58, hg⟩ := tq_ob_s hg
        refine tq_aI (va_runV (As := [.int (xs (x3 + 1).toNatClampNeg), .int (xs (x3 + 2).toNatClampNeg)]) (rest := []) ⟨hx, hb, hml, hown, hts⟩ (c_Tn_axiom l dC dI cI cL cZ ad tt H.size σ (xs (x3 + 1).toNatClampNeg) (xs (x3 + 2).toNatClampNeg)  r59 σ60 f58) (cwV 2 hts (tq_gV tw_278 tw_279 tw_280 tw_1 tw_281) rfl rfl rfl (by decide +kernel) ⟨Nat.le_of_ble_eq_true rfl, Nat.le_of_ble_eq_true rfl⟩) ⟨tq_bl, va_recv hK hP (ci := 0) (q0 := 0) rfl rfl, (tq_pr hP hK hD hS hA hZ hN)⟩ rfl rfl hl.1 rfl (lv_room (Nat.le_of_ble_eq_true rfl)) d_Lw_law_260 ⟨Nat.le_of_ble_eq_true rfl, Nat.le_of_ble_eq_true rfl⟩) hD hS hA (fun H locs hP hD hS => ?_)
        refine lv_aload_n hx hb d_Lw_law_263 rfl (lv_at hl 2 rfl) ?_
        refine lv_aload_n hx hb d_Lw_law_264 rfl (lv_at hl 0 rfl) ?_
        refine lv_iload_n hx hb d_Lw_law_265 rfl (lv_at hl 3 rfl) ?_
        refine lv_iconst (v := 1) hx hb d_Lw_law_266 (by decide) ?_
        refine lv_iadd hx hb d_Lw_law_267 ?_
        obtain ⟨g61, hg⟩ := tq_gd_s hg
        refine va_sld hx hb hX hbl hbA hS g61 d_Lw_law_268 ?_
        refine lv_aload_n hx hb d_Lw_law_269 rfl (lv_at hl 0 rfl) ?_
        refine lv_iload_n hx hb d_Lw_law_270 rfl (lv_at hl 3 rfl) ?_
        refine lv_iconst (v := 2) hx hb d_Lw_law_271 (by decide) ?_
        refine lv_iadd hx hb d_Lw_law_272 ?_
        obtain ⟨g62, hg⟩ := tq_gd_s hg
        refine va_sld hx hb hX hbl hbA hS g62 d_Lw_law_273 ?_
        obtain ⟨r64, σ65, f63, hg⟩ := tq_ob_s hg
        refine tq_aI (va_runV (As := [.int (xs (x3 + 1).toNatClampNeg), .int (xs (x3 + 2).toNatClampNeg)]) (rest := [.int r59]) ⟨hx, hb, hml, hown, hts⟩ (c_Mo_axiom l dC dI cI cL cZ ad tt H.size σ60 (xs (x3 + 1).toNatClampNeg) (xs (x3 + 2).toNatClampNeg)  r64 σ65 f63) (cwV 2 hts (tq_gV tw_711 tw_712 tw_713 tw_6 tw_714) rfl rfl rfl (by decide +kernel) ⟨Nat.le_of_ble_eq_true rfl, Nat.le_of_ble_eq_true rfl⟩) ⟨tq_bl, va_recv hK hP (ci := 5) (q0 := 5) rfl rfl, (tq_pr hP hK hD hS hA hZ hN)⟩ rfl rfl hl.1 rfl (lv_room (Nat.le_of_ble_eq_true rfl)) d_Lw_law_274 ⟨Nat.le_of_ble_eq_true rfl, Nat.le_of_ble_eq_true rfl⟩) hD hS hA (fun H locs hP hD hS => ?_)
        refine lv_icmp_eq (tgt := 591) hx hb d_Lw_law_277 (by decide) (fun c66 => ?_) (fun c66 => ?_)
        · replace hg := tq_if_t c66 hg
          obtain ⟨v67, ev67, hg⟩ := tq_lj_s hg
          refine lv_iinc (v := v67) (lv' := [(3, .int v67), (0, .ref b), (1, .ref (ad 0)), (2, .ref (ad 5))]) hx hb d_Lw_law_591 hl (k := 3) rfl (by rw [ev67]; rfl) (by decide) rfl (fun ls hl => ?_)
          refine lv_goto (tgt := 18) hx hb d_Lw_law_594 (by decide) ?_
          exact ih hP hD hS (lv_sub hl [1, 2, 3, 0] rfl) (tq_gi hg hn)
        · replace hg := tq_if_f c66 hg
          refine lv_iconst (v := 0) hx hb d_Lw_law_280 (by decide) ?_
          exact absurd (tq_grI hg hn).1 (by decide)
      replace hg := tq_if_f w201_5 hg
      by_cases w201_6 : v3 = 6
      · replace hg := tq_if_t w201_6 hg
        refine lv_tableIn (tgt := 282) hx hb d_Lw_law_32 (by rw [w201_6]; decide) (by rw [w201_6]; decide) (by rw [w201_6]; rfl) (by decide) ?_
        refine lv_aload_n hx hb d_Lw_law_282 rfl (lv_at hl 1 rfl) ?_
        obtain ⟨r69, σ70, f68, hg⟩ := tq_ob_s hg
        refine tq_aI (va_runV (As := []) (rest := []) ⟨hx, hb, hml, hown, hts⟩ (c_Tn_drop l dC dI cI cL cZ ad tt H.size σ   r69 σ70 f68) (cwV 0 hts (tq_gV tw_286 tw_287 tw_288 tw_1 tw_289) rfl rfl rfl (by decide +kernel) ⟨Nat.le_of_ble_eq_true rfl, Nat.le_of_ble_eq_true rfl⟩) ⟨tq_bl, va_recv hK hP (ci := 0) (q0 := 0) rfl rfl, (tq_pr hP hK hD hS hA hZ hN)⟩ rfl rfl hl.1 rfl (lv_room (Nat.le_of_ble_eq_true rfl)) d_Lw_law_283 ⟨Nat.le_of_ble_eq_true rfl, Nat.le_of_ble_eq_true rfl⟩) hD hS hA (fun H locs hP hD hS => ?_)
        refine lv_aload_n hx hb d_Lw_law_286 rfl (lv_at hl 2 rfl) ?_
        obtain ⟨r72, σ73, f71, hg⟩ := tq_ob_s hg
        refine tq_aI (va_runV (As := []) (rest := [.int r69]) ⟨hx, hb, hml, hown, hts⟩ (c_Mo_drop l dC dI cI cL cZ ad tt H.size σ70   r72 σ73 f71) (cwV 0 hts (tq_gV tw_715 tw_716 tw_717 tw_6 tw_718) rfl rfl rfl (by decide +kernel) ⟨Nat.le_of_ble_eq_true rfl, Nat.le_of_ble_eq_true rfl⟩) ⟨tq_bl, va_recv hK hP (ci := 5) (q0 := 5) rfl rfl, (tq_pr hP hK hD hS hA hZ hN)⟩ rfl rfl hl.1 rfl (lv_room (Nat.le_of_ble_eq_true rfl)) d_Lw_law_287 ⟨Nat.le_of_ble_eq_true rfl, Nat.le_of_ble_eq_true rfl⟩) hD hS hA (fun H locs hP hD hS => ?_)
        refine lv_icmp_eq (tgt := 591) hx hb d_Lw_law_290 (by decide) (fun c74 => ?_) (fun c74 => ?_)
        · replace hg := tq_if_t c74 hg
          obtain ⟨v75, ev75, hg⟩ := tq_lj_s hg
          refine lv_iinc (v := v75) (lv' := [(3, .int v75), (0, .ref b), (1, .ref (ad 0)), (2, .ref (ad 5))]) hx hb d_Lw_law_591 hl (k := 3) rfl (by rw [ev75]; rfl) (by decide) rfl (fun ls hl => ?_)
          refine lv_goto (tgt := 18) hx hb d_Lw_law_594 (by decide) ?_
          exact ih hP hD hS (lv_sub hl [1, 2, 3, 0] rfl) (tq_gi hg hn)
        · replace hg := tq_if_f c74 hg
          refine lv_iconst (v := 0) hx hb d_Lw_law_293 (by decide) ?_
          exact absurd (tq_grI hg hn).1 (by decide)
      replace hg := tq_if_f w201_6 hg
      by_cases w201_7 : v3 = 7
      · replace hg := tq_if_t w201_7 hg
        refine lv_tableIn (tgt := 295) hx hb d_Lw_law_32 (by rw [w201_7]; decide) (by rw [w201_7]; decide) (by rw [w201_7]; rfl) (by decide) ?_
        refine lv_aload_n hx hb d_Lw_law_295 rfl (lv_at hl 1 rfl) ?_
        refine lv_aload_n hx hb d_Lw_law_296 rfl (lv_at hl 0 rfl) ?_
        refine lv_iload_n hx hb d_Lw_law_297 rfl (lv_at hl 3 rfl) ?_
        refine lv_iconst (v := 1) hx hb d_Lw_law_298 (by decide) ?_
        refine lv_iadd hx hb d_Lw_law_299 ?_
        obtain ⟨g76, hg⟩ := tq_gd_s hg
        refine va_sld hx hb hX hbl hbA hS g76 d_Lw_law_300 ?_
        refine lv_aload_n hx hb d_Lw_law_301 rfl (lv_at hl 0 rfl) ?_
        refine lv_iload_n hx hb d_Lw_law_302 rfl (lv_at hl 3 rfl) ?_
        refine lv_iconst (v := 2) hx hb d_Lw_law_303 (by decide) ?_
        refine lv_iadd hx hb d_Lw_law_304 ?_
        obtain ⟨g77, hg⟩ := tq_gd_s hg
        refine va_sld hx hb hX hbl hbA hS g77 d_Lw_law_305 ?_
        obtain ⟨r79, σ80, f78, hg⟩ := tq_ob_s hg
        refine tq_aI (va_runV (As := [.int (xs (x3 + 1).toNatClampNeg), .int (xs (x3 + 2).toNatClampNeg)]) (rest := []) ⟨hx, hb, hml, hown, hts⟩ (c_Tn_role l dC dI cI cL cZ ad tt H.size σ (xs (x3 + 1).toNatClampNeg) (xs (x3 + 2).toNatClampNeg)  r79 σ80 f78) (cwV 2 hts (tq_gV tw_294 tw_295 tw_296 tw_1 tw_297) rfl rfl rfl (by decide +kernel) ⟨Nat.le_of_ble_eq_true rfl, Nat.le_of_ble_eq_true rfl⟩) ⟨tq_bl, va_recv hK hP (ci := 0) (q0 := 0) rfl rfl, (tq_pr hP hK hD hS hA hZ hN)⟩ rfl rfl hl.1 rfl (lv_room (Nat.le_of_ble_eq_true rfl)) d_Lw_law_306 ⟨Nat.le_of_ble_eq_true rfl, Nat.le_of_ble_eq_true rfl⟩) hD hS hA (fun H locs hP hD hS => ?_)
        refine lv_aload_n hx hb d_Lw_law_309 rfl (lv_at hl 2 rfl) ?_
        refine lv_aload_n hx hb d_Lw_law_310 rfl (lv_at hl 0 rfl) ?_
        refine lv_iload_n hx hb d_Lw_law_311 rfl (lv_at hl 3 rfl) ?_
        refine lv_iconst (v := 1) hx hb d_Lw_law_312 (by decide) ?_
        refine lv_iadd hx hb d_Lw_law_313 ?_
        obtain ⟨g81, hg⟩ := tq_gd_s hg
        refine va_sld hx hb hX hbl hbA hS g81 d_Lw_law_314 ?_
        refine lv_aload_n hx hb d_Lw_law_315 rfl (lv_at hl 0 rfl) ?_
        refine lv_iload_n hx hb d_Lw_law_316 rfl (lv_at hl 3 rfl) ?_
        refine lv_iconst (v := 2) hx hb d_Lw_law_317 (by decide) ?_
        refine lv_iadd hx hb d_Lw_law_318 ?_
        obtain ⟨g82, hg⟩ := tq_gd_s hg
        refine va_sld hx hb hX hbl hbA hS g82 d_Lw_law_319 ?_
        obtain ⟨r84, σ85, f83, hg⟩ := tq_ob_s hg
        refine tq_aI (va_runV (As := [.int (xs (x3 + 1).toNatClampNeg), .int (xs (x3 + 2).toNatClampNeg)]) (rest := [.int r79]) ⟨hx, hb, hml, hown, hts⟩ (c_Mo_role l dC dI cI cL cZ ad tt H.size σ80 (xs (x3 + 1).toNatClampNeg) (xs (x3 + 2).toNatClampNeg)  r84 σ85 f83) (cwV 2 hts (tq_gV tw_719 tw_720 tw_721 tw_6 tw_722) rfl rfl rfl (by decide +kernel) ⟨Nat.le_of_ble_eq_true rfl, Nat.le_of_ble_eq_true rfl⟩) ⟨tq_bl, va_recv hK hP (ci := 5) (q0 := 5) rfl rfl, (tq_pr hP hK hD hS hA hZ hN)⟩ rfl rfl hl.1 rfl (lv_room (Nat.le_of_ble_eq_true rfl)) d_Lw_law_320 ⟨Nat.le_of_ble_eq_true rfl, Nat.le_of_ble_eq_true rfl⟩) hD hS hA (fun H locs hP hD hS => ?_)
        refine lv_icmp_eq (tgt := 591) hx hb d_Lw_law_323 (by decide) (fun c86 => ?_) (fun c86 => ?_)
        · replace hg := tq_if_t c86 hg
          obtain ⟨v87, ev87, hg⟩ := tq_lj_s hg
          refine lv_iinc (v := v87) (lv' := [(3, .int v87), (0, .ref b), (1, .ref (ad 0)), (2, .ref (ad 5))]) hx hb d_Lw_law_591 hl (k := 3) rfl (by rw [ev87]; rfl) (by decide) rfl (fun ls hl => ?_)
          refine lv_goto (tgt := 18) hx hb d_Lw_law_594 (by decide) ?_
          exact ih hP hD hS (lv_sub hl [1, 2, 3, 0] rfl) (tq_gi hg hn)
        · replace hg := tq_if_f c86 hg
          refine lv_iconst (v := 0) hx hb d_Lw_law_326 (by decide) ?_
          exact absurd (tq_grI hg hn).1 (by decide)
      replace hg := tq_if_f w201_7 hg
      by_cases w201_8 : v3 = 8
      · replace hg := tq_if_t w201_8 hg
        refine lv_tableIn (tgt := 328) hx hb d_Lw_law_32 (by rw [w201_8]; decide) (by rw [w201_8]; decide) (by rw [w201_8]; rfl) (by decide) ?_
        refine lv_aload_n hx hb d_Lw_law_328 rfl (lv_at hl 1 rfl) ?_
        refine lv_aload_n hx hb d_Lw_law_329 rfl (lv_at hl 0 rfl) ?_
        refine lv_iload_n hx hb d_Lw_law_330 rfl (lv_at hl 3 rfl) ?_
        refine lv_iconst (v := 1) hx hb d_Lw_law_331 (by decide) ?_
        refine lv_iadd hx hb d_Lw_law_332 ?_
        obtain ⟨g88, hg⟩ := tq_gd_s hg
        refine va_sld hx hb hX hbl hbA hS g88 d_Lw_law_333 ?_
        obtain ⟨r90, σ91, f89, hg⟩ := tq_ob_s hg
        refine tq_aI (va_runV (As := [.int (xs (x3 + 1).toNatClampNeg)]) (rest := []) ⟨hx, hb, hml, hown, hts⟩ (c_Tn_can l dC dI cI cL cZ ad tt H.size σ (xs (x3 + 1).toNatClampNeg)  r90 σ91 f89) (cwV 1 hts (tq_gV tw_307 tw_308 tw_309 tw_1 tw_310) rfl rfl rfl (by decide +kernel) ⟨Nat.le_of_ble_eq_true rfl, Nat.le_of_ble_eq_true rfl⟩) ⟨tq_bl, va_recv hK hP (ci := 0) (q0 := 0) rfl rfl, (tq_pr hP hK hD hS hA hZ hN)⟩ rfl rfl hl.1 rfl (lv_room (Nat.le_of_ble_eq_true rfl)) d_Lw_law_334 ⟨Nat.le_of_ble_eq_true rfl, Nat.le_of_ble_eq_true rfl⟩) hD hS hA (fun H locs hP hD hS => ?_)
        refine lv_aload_n hx hb d_Lw_law_337 rfl (lv_at hl 2 rfl) ?_
        refine lv_aload_n hx hb d_Lw_law_338 rfl (lv_at hl 0 rfl) ?_
        refine lv_iload_n hx hb d_Lw_law_339 rfl (lv_at hl 3 rfl) ?_
        refine lv_iconst (v := 1) hx hb d_Lw_law_340 (by decide) ?_
        refine lv_iadd hx hb d_Lw_law_341 ?_
        obtain ⟨g92, hg⟩ := tq_gd_s hg
        refine va_sld hx hb hX hbl hbA hS g92 d_Lw_law_342 ?_
        obtain ⟨r94, σ95, f93, hg⟩ := tq_ob_s hg
        refine tq_aI (va_runV (As := [.int (xs (x3 + 1).toNatClampNeg)]) (rest := [.int r90]) ⟨hx, hb, hml, hown, hts⟩ (c_Mo_can l dC dI cI cL cZ ad tt H.size σ91 (xs (x3 + 1).toNatClampNeg)  r94 σ95 f93) (cwV 1 hts (tq_gV tw_723 tw_724 tw_725 tw_6 tw_726) rfl rfl rfl (by decide +kernel) ⟨Nat.le_of_ble_eq_true rfl, Nat.le_of_ble_eq_true rfl⟩) ⟨tq_bl, va_recv hK hP (ci := 5) (q0 := 5) rfl rfl, (tq_pr hP hK hD hS hA hZ hN)⟩ rfl rfl hl.1 rfl (lv_room (Nat.le_of_ble_eq_true rfl)) d_Lw_law_343 ⟨Nat.le_of_ble_eq_true rfl, Nat.le_of_ble_eq_true rfl⟩) hD hS hA (fun H locs hP hD hS => ?_)
        refine lv_icmp_eq (tgt := 591) hx hb d_Lw_law_346 (by decide) (fun c96 => ?_) (fun c96 => ?_)
        · replace hg := tq_if_t c96 hg
          obtain ⟨v97, ev97, hg⟩ := tq_lj_s hg
          refine lv_iinc (v := v97) (lv' := [(3, .int v97), (0, .ref b), (1, .ref (ad 0)), (2, .ref (ad 5))]) hx hb d_Lw_law_591 hl (k := 3) rfl (by rw [ev97]; rfl) (by decide) rfl (fun ls hl => ?_)
          refine lv_goto (tgt := 18) hx hb d_Lw_law_594 (by decide) ?_
          exact ih hP hD hS (lv_sub hl [1, 2, 3, 0] rfl) (tq_gi hg hn)
        · replace hg := tq_if_f c96 hg
          refine lv_iconst (v := 0) hx hb d_Lw_law_349 (by decide) ?_
          exact absurd (tq_grI hg hn).1 (by decide)
      replace hg := tq_if_f w201_8 hg
      by_cases w201_9 : v3 = 9
      · replace hg := tq_if_t w201_9 hg
        refine lv_tableIn (tgt := 351) hx hb d_Lw_law_32 (by rw [w201_9]; decide) (by rw [w201_9]; decide) (by rw [w201_9]; rfl) (by decide) ?_
        refine lv_aload_n hx hb d_Lw_law_351 rfl (lv_at hl 1 rfl) ?_
        refine lv_aload_n hx hb d_Lw_law_352 rfl (lv_at hl 0 rfl) ?_
        refine lv_iload_n hx hb d_Lw_law_353 rfl (lv_at hl 3 rfl) ?_
        refine lv_iconst (v := 1) hx hb d_Lw_law_354 (by decide) ?_
        refine lv_iadd hx hb d_Lw_law_355 ?_
        obtain ⟨g98, hg⟩ := tq_gd_s hg
        refine va_sld hx hb hX hbl hbA hS g98 d_Lw_law_356 ?_
        refine lv_aload_n hx hb d_Lw_law_357 rfl (lv_at hl 0 rfl) ?_
        refine lv_iload_n hx hb d_Lw_law_358 rfl (lv_at hl 3 rfl) ?_
        refine lv_iconst (v := 2) hx hb d_Lw_law_359 (by decide) ?_
        refine lv_iadd hx hb d_Lw_law_360 ?_
        obtain ⟨g99, hg⟩ := tq_gd_s hg
        refine va_sld hx hb hX hbl hbA hS g99 d_Lw_law_361 ?_
        obtain ⟨r101, σ102, f100, hg⟩ := tq_ob_s hg
        refine tq_aI (va_runV (As := [.int (xs (x3 + 1).toNatClampNeg), .int (xs (x3 + 2).toNatClampNeg)]) (rest := []) ⟨hx, hb, hml, hown, hts⟩ (c_Tn_below l dC dI cI cL cZ ad tt H.size σ (xs (x3 + 1).toNatClampNeg) (xs (x3 + 2).toNatClampNeg)  r101 σ102 f100) (cwV 2 hts (tq_gV tw_406 tw_407 tw_408 tw_1 tw_409) rfl rfl rfl (by decide +kernel) ⟨Nat.le_of_ble_eq_true rfl, Nat.le_of_ble_eq_true rfl⟩) ⟨tq_bl, va_recv hK hP (ci := 0) (q0 := 0) rfl rfl, (tq_pr hP hK hD hS hA hZ hN)⟩ rfl rfl hl.1 rfl (lv_room (Nat.le_of_ble_eq_true rfl)) d_Lw_law_362 ⟨Nat.le_of_ble_eq_true rfl, Nat.le_of_ble_eq_true rfl⟩) hD hS hA (fun H locs hP hD hS => ?_)
        refine lv_aload_n hx hb d_Lw_law_365 rfl (lv_at hl 2 rfl) ?_
        refine lv_aload_n hx hb d_Lw_law_366 rfl (lv_at hl 0 rfl) ?_
        refine lv_iload_n hx hb d_Lw_law_367 rfl (lv_at hl 3 rfl) ?_
        refine lv_iconst (v := 1) hx hb d_Lw_law_368 (by decide) ?_
        refine lv_iadd hx hb d_Lw_law_369 ?_
        obtain ⟨g103, hg⟩ := tq_gd_s hg
        refine va_sld hx hb hX hbl hbA hS g103 d_Lw_law_370 ?_
        refine lv_aload_n hx hb d_Lw_law_371 rfl (lv_at hl 0 rfl) ?_
        refine lv_iload_n hx hb d_Lw_law_372 rfl (lv_at hl 3 rfl) ?_
        refine lv_iconst (v := 2) hx hb d_Lw_law_373 (by decide) ?_
        refine lv_iadd hx hb d_Lw_law_374 ?_
        obtain ⟨g104, hg⟩ := tq_gd_s hg
        refine va_sld hx hb hX hbl hbA hS g104 d_Lw_law_375 ?_
        obtain ⟨r106, σ107, f105, hg⟩ := tq_ob_s hg
        refine tq_aI (va_runV (As := [.int (xs (x3 + 1).toNatClampNeg), .int (xs (x3 + 2).toNatClampNeg)]) (rest := [.int r101]) ⟨hx, hb, hml, hown, hts⟩ (c_Mo_below l dC dI cI cL cZ ad tt H.size σ102 (xs (x3 + 1).toNatClampNeg) (xs (x3 + 2).toNatClampNeg)  r106 σ107 f105) (cwV 2 hts (tq_gV tw_759 tw_760 tw_761 tw_6 tw_762) rfl rfl rfl (by decide +kernel) ⟨Nat.le_of_ble_eq_true rfl, Nat.le_of_ble_eq_true rfl⟩) ⟨tq_bl, va_recv hK hP (ci := 5) (q0 := 5) rfl rfl, (tq_pr hP hK hD hS hA hZ hN)⟩ rfl rfl hl.1 rfl (lv_room (Nat.le_of_ble_eq_true rfl)) d_Lw_law_376 ⟨Nat.le_of_ble_eq_true rfl, Nat.le_of_ble_eq_true rfl⟩) hD hS hA (fun H locs hP hD hS => ?_)
        refine lv_icmp_eq (tgt := 591) hx hb d_Lw_law_379 (by decide) (fun c108 => ?_) (fun c108 => ?_)
        · replace hg := tq_if_t c108 hg
          obtain ⟨v109, ev109, hg⟩ := tq_lj_s hg
          refine lv_iinc (v := v109) (lv' := [(3, .int v109), (0, .ref b), (1, .ref (ad 0)), (2, .ref (ad 5))]) hx hb d_Lw_law_591 hl (k := 3) rfl (by rw [ev109]; rfl) (by decide) rfl (fun ls hl => ?_)
          refine lv_goto (tgt := 18) hx hb d_Lw_law_594 (by decide) ?_
          exact ih hP hD hS (lv_sub hl [1, 2, 3, 0] rfl) (tq_gi hg hn)
        · replace hg := tq_if_f c108 hg
          refine lv_iconst (v := 0) hx hb d_Lw_law_382 (by decide) ?_
          exact absurd (tq_grI hg hn).1 (by decide)
      replace hg := tq_if_f w201_9 hg
      by_cases w201_10 : v3 = 10
      · replace hg := tq_if_t w201_10 hg
        refine lv_tableIn (tgt := 384) hx hb d_Lw_law_32 (by rw [w201_10]; decide) (by rw [w201_10]; decide) (by rw [w201_10]; rfl) (by decide) ?_
        refine lv_aload_n hx hb d_Lw_law_384 rfl (lv_at hl 1 rfl) ?_
        obtain ⟨r111, σ112, f110, hg⟩ := tq_ob_s hg
        refine tq_aI (va_runV (As := []) (rest := []) ⟨hx, hb, hml, hown, hts⟩ (c_Tn_types l dC dI cI cL cZ ad tt H.size σ   r111 σ112 f110) (cwV 0 hts (tq_gV tw_414 tw_415 tw_416 tw_1 tw_417) rfl rfl rfl (by decide +kernel) ⟨Nat.le_of_ble_eq_true rfl, Nat.le_of_ble_eq_true rfl⟩) ⟨tq_bl, va_recv hK hP (ci := 0) (q0 := 0) rfl rfl, (tq_pr hP hK hD hS hA hZ hN)⟩ rfl rfl hl.1 rfl (lv_room (Nat.le_of_ble_eq_true rfl)) d_Lw_law_385 ⟨Nat.le_of_ble_eq_true rfl, Nat.le_of_ble_eq_true rfl⟩) hD hS hA (fun H locs hP hD hS => ?_)
        refine lv_aload_n hx hb d_Lw_law_388 rfl (lv_at hl 2 rfl) ?_
        obtain ⟨r114, σ115, f113, hg⟩ := tq_ob_s hg
        refine tq_aI (va_runV (As := []) (rest := [.int r111]) ⟨hx, hb, hml, hown, hts⟩ (c_Mo_types l dC dI cI cL cZ ad tt H.size σ112   r114 σ115 f113) (cwV 0 hts (tq_gV tw_763 tw_764 tw_765 tw_6 tw_766) rfl rfl rfl (by decide +kernel) ⟨Nat.le_of_ble_eq_true rfl, Nat.le_of_ble_eq_true rfl⟩) ⟨tq_bl, va_recv hK hP (ci := 5) (q0 := 5) rfl rfl, (tq_pr hP hK hD hS hA hZ hN)⟩ rfl rfl hl.1 rfl (lv_room (Nat.le_of_ble_eq_true rfl)) d_Lw_law_389 ⟨Nat.le_of_ble_eq_true rfl, Nat.le_of_ble_eq_true rfl⟩) hD hS hA (fun H locs hP hD hS => ?_)
        refine lv_icmp_eq (tgt := 591) hx hb d_Lw_law_392 (by decide) (fun c116 => ?_) (fun c116 => ?_)
        · replace hg := tq_if_t c116 hg
          obtain ⟨v117, ev117, hg⟩ := tq_lj_s hg
          refine lv_iinc (v := v117) (lv' := [(3, .int v117), (0, .ref b), (1, .ref (ad 0)), (2, .ref (ad 5))]) hx hb d_Lw_law_591 hl (k := 3) rfl (by rw [ev117]; rfl) (by decide) rfl (fun ls hl => ?_)
          refine lv_goto (tgt := 18) hx hb d_Lw_law_594 (by decide) ?_
          exact ih hP hD hS (lv_sub hl [1, 2, 3, 0] rfl) (tq_gi hg hn)
        · replace hg := tq_if_f c116 hg
          refine lv_iconst (v := 0) hx hb d_Lw_law_395 (by decide) ?_
          exact absurd (tq_grI hg hn).1 (by decide)
      replace hg := tq_if_f w201_10 hg
      by_cases w201_11 : v3 = 11
      · replace hg := tq_if_t w201_11 hg
        refine lv_tableIn (tgt := 397) hx hb d_Lw_law_32 (by rw [w201_11]; decide) (by rw [w201_11]; decide) (by rw [w201_11]; rfl) (by decide) ?_
        refine lv_aload_n hx hb d_Lw_law_397 rfl (lv_at hl 1 rfl) ?_
        obtain ⟨r119, σ120, f118, hg⟩ := tq_ob_s hg
        refine tq_aI (va_runV (As := []) (rest := []) ⟨hx, hb, hml, hown, hts⟩ (c_Tn_rounds l dC dI cI cL cZ ad tt H.size σ   r119 σ120 f118) (cwV 0 hts (tq_gV tw_422 tw_423 tw_424 tw_1 tw_425) rfl rfl rfl (by decide +kernel) ⟨Nat.le_of_ble_eq_true rfl, Nat.le_of_ble_eq_true rfl⟩) ⟨tq_bl, va_recv hK hP (ci := 0) (q0 := 0) rfl rfl, (tq_pr hP hK hD hS hA hZ hN)⟩ rfl rfl hl.1 rfl (lv_room (Nat.le_of_ble_eq_true rfl)) d_Lw_law_398 ⟨Nat.le_of_ble_eq_true rfl, Nat.le_of_ble_eq_true rfl⟩) hD hS hA (fun H locs hP hD hS => ?_)
        refine lv_aload_n hx hb d_Lw_law_401 rfl (lv_at hl 2 rfl) ?_
        obtain ⟨r122, σ123, f121, hg⟩ := tq_ob_s hg
        refine tq_aI (va_runV (As := []) (rest := [.int r119]) ⟨hx, hb, hml, hown, hts⟩ (c_Mo_rounds l dC dI cI cL cZ ad tt H.size σ120   r122 σ123 f121) (cwV 0 hts (tq_gV tw_767 tw_768 tw_769 tw_6 tw_770) rfl rfl rfl (by decide +kernel) ⟨Nat.le_of_ble_eq_true rfl, Nat.le_of_ble_eq_true rfl⟩) ⟨tq_bl, va_recv hK hP (ci := 5) (q0 := 5) rfl rfl, (tq_pr hP hK hD hS hA hZ hN)⟩ rfl rfl hl.1 rfl (lv_room (Nat.le_of_ble_eq_true rfl)) d_Lw_law_402 ⟨Nat.le_of_ble_eq_true rfl, Nat.le_of_ble_eq_true rfl⟩) hD hS hA (fun H locs hP hD hS => ?_)
        refine lv_icmp_eq (tgt := 591) hx hb d_Lw_law_405 (by decide) (fun c124 => ?_) (fun c124 => ?_)
        · replace hg := tq_if_t c124 hg
          obtain ⟨v125, ev125, hg⟩ := tq_lj_s hg
          refine lv_iinc (v := v125) (lv' := [(3, .int v125), (0, .ref b), (1, .ref (ad 0)), (2, .ref (ad 5))]) hx hb d_Lw_law_591 hl (k := 3) rfl (by rw [ev125]; rfl) (by decide) rfl (fun ls hl => ?_)
          refine lv_goto (tgt := 18) hx hb d_Lw_law_594 (by decide) ?_
          exact ih hP hD hS (lv_sub hl [1, 2, 3, 0] rfl) (tq_gi hg hn)
        · replace hg := tq_if_f c124 hg
          refine lv_iconst (v := 0) hx hb d_Lw_law_408 (by decide) ?_
          exact absurd (tq_grI hg hn).1 (by decide)
      replace hg := tq_if_f w201_11 hg
      by_cases w201_12 : v3 = 12
      · replace hg := tq_if_t w201_12 hg
        refine lv_tableIn (tgt := 410) hx hb d_Lw_law_32 (by rw [w201_12]; decide) (by rw [w201_12]; decide) (by rw [w201_12]; rfl) (by decide) ?_
        refine lv_aload_n hx hb d_Lw_law_410 rfl (lv_at hl 1 rfl) ?_
        refine lv_aload_n hx hb d_Lw_law_411 rfl (lv_at hl 0 rfl) ?_
        refine lv_iload_n hx hb d_Lw_law_412 rfl (lv_at hl 3 rfl) ?_
        refine lv_iconst (v := 1) hx hb d_Lw_law_413 (by decide) ?_
        refine lv_iadd hx hb d_Lw_law_414 ?_
        obtain ⟨g126, hg⟩ := tq_gd_s hg
        refine va_sld hx hb hX hbl hbA hS g126 d_Lw_law_415 ?_
        obtain ⟨r128, σ129, f127, hg⟩ := tq_ob_s hg
        refine tq_aI (va_runV (As := [.int (xs (x3 + 1).toNatClampNeg)]) (rest := []) ⟨hx, hb, hml, hown, hts⟩ (c_Tn_depth l dC dI cI cL cZ ad tt H.size σ (xs (x3 + 1).toNatClampNeg)  r128 σ129 f127) (cwV 1 hts (tq_gV tw_430 tw_431 tw_432 tw_1 tw_433) rfl rfl rfl (by decide +kernel) ⟨Nat.le_of_ble_eq_true rfl, Nat.le_of_ble_eq_true rfl⟩) ⟨tq_bl, va_recv hK hP (ci := 0) (q0 := 0) rfl rfl, (tq_pr hP hK hD hS hA hZ hN)⟩ rfl rfl hl.1 rfl (lv_room (Nat.le_of_ble_eq_true rfl)) d_Lw_law_416 ⟨Nat.le_of_ble_eq_true rfl, Nat.le_of_ble_eq_true rfl⟩) hD hS hA (fun H locs hP hD hS => ?_)
        refine lv_aload_n hx hb d_Lw_law_419 rfl (lv_at hl 2 rfl) ?_
        refine lv_aload_n hx hb d_Lw_law_420 rfl (lv_at hl 0 rfl) ?_
        refine lv_iload_n hx hb d_Lw_law_421 rfl (lv_at hl 3 rfl) ?_
        refine lv_iconst (v := 1) hx hb d_Lw_law_422 (by decide) ?_
        refine lv_iadd hx hb d_Lw_law_423 ?_
        obtain ⟨g130, hg⟩ := tq_gd_s hg
        refine va_sld hx hb hX hbl hbA hS g130 d_Lw_law_424 ?_
        obtain ⟨r132, σ133, f131, hg⟩ := tq_ob_s hg
        refine tq_aI (va_runV (As := [.int (xs (x3 + 1).toNatClampNeg)]) (rest := [.int r128]) ⟨hx, hb, hml, hown, hts⟩ (c_Mo_depth l dC dI cI cL cZ ad tt H.size σ129 (xs (x3 + 1).toNatClampNeg)  r132 σ133 f131) (cwV 1 hts (tq_gV tw_771 tw_772 tw_773 tw_6 tw_774) rfl rfl rfl (by decide +kernel) ⟨Nat.le_of_ble_eq_true rfl, Nat.le_of_ble_eq_true rfl⟩) ⟨tq_bl, va_recv hK hP (ci := 5) (q0 := 5) rfl rfl, (tq_pr hP hK hD hS hA hZ hN)⟩ rfl rfl hl.1 rfl (lv_room (Nat.le_of_ble_eq_true rfl)) d_Lw_law_425 ⟨Nat.le_of_ble_eq_true rfl, Nat.le_of_ble_eq_true rfl⟩) hD hS hA (fun H locs hP hD hS => ?_)
        refine lv_icmp_eq (tgt := 591) hx hb d_Lw_law_428 (by decide) (fun c134 => ?_) (fun c134 => ?_)
        · replace hg := tq_if_t c134 hg
          obtain ⟨v135, ev135, hg⟩ := tq_lj_s hg
          refine lv_iinc (v := v135) (lv' := [(3, .int v135), (0, .ref b), (1, .ref (ad 0)), (2, .ref (ad 5))]) hx hb d_Lw_law_591 hl (k := 3) rfl (by rw [ev135]; rfl) (by decide) rfl (fun ls hl => ?_)
          refine lv_goto (tgt := 18) hx hb d_Lw_law_594 (by decide) ?_
          exact ih hP hD hS (lv_sub hl [1, 2, 3, 0] rfl) (tq_gi hg hn)
        · replace hg := tq_if_f c134 hg
          refine lv_iconst (v := 0) hx hb d_Lw_law_431 (by decide) ?_
          exact absurd (tq_grI hg hn).1 (by decide)
      replace hg := tq_if_f w201_12 hg
      by_cases w201_13 : v3 = 13
      · replace hg := tq_if_t w201_13 hg
        refine lv_tableIn (tgt := 433) hx hb d_Lw_law_32 (by rw [w201_13]; decide) (by rw [w201_13]; decide) (by rw [w201_13]; rfl) (by decide) ?_
        refine lv_aload_n hx hb d_Lw_law_433 rfl (lv_at hl 1 rfl) ?_
        refine lv_aload_n hx hb d_Lw_law_434 rfl (lv_at hl 0 rfl) ?_
        refine lv_iload_n hx hb d_Lw_law_435 rfl (lv_at hl 3 rfl) ?_
        refine lv_iconst (v := 1) hx hb d_Lw_law_436 (by decide) ?_
        refine lv_iadd hx hb d_Lw_law_437 ?_
        obtain ⟨g136, hg⟩ := tq_gd_s hg
        refine va_sld hx hb hX hbl hbA hS g136 d_Lw_law_438 ?_
        refine lv_aload_n hx hb d_Lw_law_439 rfl (lv_at hl 0 rfl) ?_
        refine lv_iload_n hx hb d_Lw_law_440 rfl (lv_at hl 3 rfl) ?_
        refine lv_iconst (v := 2) hx hb d_Lw_law_441 (by decide) ?_
        refine lv_iadd hx hb d_Lw_law_442 ?_
        obtain ⟨g137, hg⟩ := tq_gd_s hg
        refine va_sld hx hb hX hbl hbA hS g137 d_Lw_law_443 ?_
        obtain ⟨r139, σ140, f138, hg⟩ := tq_ob_s hg
        refine tq_aI (va_runV (As := [.int (xs (x3 + 1).toNatClampNeg), .int (xs (x3 + 2).toNatClampNeg)]) (rest := []) ⟨hx, hb, hml, hown, hts⟩ (c_Tn_individual l dC dI cI cL cZ ad tt H.size σ (xs (x3 + 1).toNatClampNeg) (xs (x3 + 2).toNatClampNeg)  r139 σ140 f138) (cwV 2 hts (tq_gV tw_440 tw_441 tw_442 tw_1 tw_443) rfl rfl rfl (by decide +kernel) ⟨Nat.le_of_ble_eq_true rfl, Nat.le_of_ble_eq_true rfl⟩) ⟨tq_bl, va_recv hK hP (ci := 0) (q0 := 0) rfl rfl, (tq_pr hP hK hD hS hA hZ hN)⟩ rfl rfl hl.1 rfl (lv_room (Nat.le_of_ble_eq_true rfl)) d_Lw_law_444 ⟨Nat.le_of_ble_eq_true rfl, Nat.le_of_ble_eq_true rfl⟩) hD hS hA (fun H locs hP hD hS => ?_)
        refine lv_aload_n hx hb d_Lw_law_447 rfl (lv_at hl 2 rfl) ?_
        refine lv_aload_n hx hb d_Lw_law_448 rfl (lv_at hl 0 rfl) ?_
        refine lv_iload_n hx hb d_Lw_law_449 rfl (lv_at hl 3 rfl) ?_
        refine lv_iconst (v := 1) hx hb d_Lw_law_450 (by decide) ?_
        refine lv_iadd hx hb d_Lw_law_451 ?_
        obtain ⟨g141, hg⟩ := tq_gd_s hg
        refine va_sld hx hb hX hbl hbA hS g141 d_Lw_law_452 ?_
        refine lv_aload_n hx hb d_Lw_law_453 rfl (lv_at hl 0 rfl) ?_
        refine lv_iload_n hx hb d_Lw_law_454 rfl (lv_at hl 3 rfl) ?_
        refine lv_iconst (v := 2) hx hb d_Lw_law_455 (by decide) ?_
        refine lv_iadd hx hb d_Lw_law_456 ?_
        obtain ⟨g142, hg⟩ := tq_gd_s hg
        refine va_sld hx hb hX hbl hbA hS g142 d_Lw_law_457 ?_
        obtain ⟨r144, σ145, f143, hg⟩ := tq_ob_s hg
        refine tq_aI (va_runV (As := [.int (xs (x3 + 1).toNatClampNeg), .int (xs (x3 + 2).toNatClampNeg)]) (rest := [.int r139]) ⟨hx, hb, hml, hown, hts⟩ (c_Mo_individual l dC dI cI cL cZ ad tt H.size σ140 (xs (x3 + 1).toNatClampNeg) (xs (x3 + 2).toNatClampNeg)  r144 σ145 f143) (cwV 2 hts (tq_gV tw_775 tw_776 tw_777 tw_6 tw_778) rfl rfl rfl (by decide +kernel) ⟨Nat.le_of_ble_eq_true rfl, Nat.le_of_ble_eq_true rfl⟩) ⟨tq_bl, va_recv hK hP (ci := 5) (q0 := 5) rfl rfl, (tq_pr hP hK hD hS hA hZ hN)⟩ rfl rfl hl.1 rfl (lv_room (Nat.le_of_ble_eq_true rfl)) d_Lw_law_458 ⟨Nat.le_of_ble_eq_true rfl, Nat.le_of_ble_eq_true rfl⟩) hD hS hA (fun H locs hP hD hS => ?_)
        refine lv_icmp_eq (tgt := 591) hx hb d_Lw_law_461 (by decide) (fun c146 => ?_) (fun c146 => ?_)
        · replace hg := tq_if_t c146 hg
          obtain ⟨v147, ev147, hg⟩ := tq_lj_s hg
          refine lv_iinc (v := v147) (lv' := [(3, .int v147), (0, .ref b), (1, .ref (ad 0)), (2, .ref (ad 5))]) hx hb d_Lw_law_591 hl (k := 3) rfl (by rw [ev147]; rfl) (by decide) rfl (fun ls hl => ?_)
          refine lv_goto (tgt := 18) hx hb d_Lw_law_594 (by decide) ?_
          exact ih hP hD hS (lv_sub hl [1, 2, 3, 0] rfl) (tq_gi hg hn)
        · replace hg := tq_if_f c146 hg
          refine lv_iconst (v := 0) hx hb d_Lw_law_464 (by decide) ?_
          exact absurd (tq_grI hg hn).1 (by decide)
      replace hg := tq_if_f w201_13 hg
      by_cases w201_14 : v3 = 14
      · replace hg := tq_if_t w201_14 hg
        refine lv_tableIn (tgt := 466) hx hb d_Lw_law_32 (by rw [w201_14]; decide) (by rw [w201_14]; decide) (by rw [w201_14]; rfl) (by decide) ?_
        refine lv_aload_n hx hb d_Lw_law_466 rfl (lv_at hl 1 rfl) ?_
        refine lv_aload_n hx hb d_Lw_law_467 rfl (lv_at hl 0 rfl) ?_
        refine lv_iload_n hx hb d_Lw_law_468 rfl (lv_at hl 3 rfl) ?_
        refine lv_iconst (v := 1) hx hb d_Lw_law_469 (by decide) ?_
        refine lv_iadd hx hb d_Lw_law_470 ?_
        obtain ⟨g148, hg⟩ := tq_gd_s hg
        refine va_sld hx hb hX hbl hbA hS g148 d_Lw_law_471 ?_
        refine lv_aload_n hx hb d_Lw_law_472 rfl (lv_at hl 0 rfl) ?_
        refine lv_iload_n hx hb d_Lw_law_473 rfl (lv_at hl 3 rfl) ?_
        refine lv_iconst (v := 2) hx hb d_Lw_law_474 (by decide) ?_
        refine lv_iadd hx hb d_Lw_law_475 ?_
        obtain ⟨g149, hg⟩ := tq_gd_s hg
        refine va_sld hx hb hX hbl hbA hS g149 d_Lw_law_476 ?_
        refine lv_aload_n hx hb d_Lw_law_477 rfl (lv_at hl 0 rfl) ?_
        refine lv_iload_n hx hb d_Lw_law_478 rfl (lv_at hl 3 rfl) ?_
        refine lv_iconst (v := 3) hx hb d_Lw_law_479 (by decide) ?_
        refine lv_iadd hx hb d_Lw_law_480 ?_
        obtain ⟨g150, hg⟩ := tq_gd_s hg
        refine va_sld hx hb hX hbl hbA hS g150 d_Lw_law_481 ?_
        obtain ⟨r152, σ153, f151, hg⟩ := tq_ob_s hg
        refine tq_aI (va_runV (As := [.int (xs (x3 + 1).toNatClampNeg), .int (xs (x3 + 2).toNatClampNeg), .int (xs (x3 + 3).toNatClampNeg)]) (rest := []) ⟨hx, hb, hml, hown, hts⟩ (c_Tn_has l dC dI cI cL cZ ad tt H.size σ (xs (x3 + 1).toNatClampNeg) (xs (x3 + 2).toNatClampNeg) (xs (x3 + 3).toNatClampNeg)  r152 σ153 f151) (cwV 3 hts (tq_gV tw_450 tw_451 tw_452 tw_1 tw_453) rfl rfl rfl (by decide +kernel) ⟨Nat.le_of_ble_eq_true rfl, Nat.le_of_ble_eq_true rfl⟩) ⟨tq_bl, va_recv hK hP (ci := 0) (q0 := 0) rfl rfl, (tq_pr hP hK hD hS hA hZ hN)⟩ rfl rfl hl.1 rfl (lv_room (Nat.le_of_ble_eq_true rfl)) d_Lw_law_482 ⟨Nat.le_of_ble_eq_true rfl, Nat.le_of_ble_eq_true rfl⟩) hD hS hA (fun H locs hP hD hS => ?_)
        refine lv_aload_n hx hb d_Lw_law_485 rfl (lv_at hl 2 rfl) ?_
        refine lv_aload_n hx hb d_Lw_law_486 rfl (lv_at hl 0 rfl) ?_
        refine lv_iload_n hx hb d_Lw_law_487 rfl (lv_at hl 3 rfl) ?_
        refine lv_iconst (v := 1) hx hb d_Lw_law_488 (by decide) ?_
        refine lv_iadd hx hb d_Lw_law_489 ?_
        obtain ⟨g154, hg⟩ := tq_gd_s hg
        refine va_sld hx hb hX hbl hbA hS g154 d_Lw_law_490 ?_
        refine lv_aload_n hx hb d_Lw_law_491 rfl (lv_at hl 0 rfl) ?_
        refine lv_iload_n hx hb d_Lw_law_492 rfl (lv_at hl 3 rfl) ?_
        refine lv_iconst (v := 2) hx hb d_Lw_law_493 (by decide) ?_
        refine lv_iadd hx hb d_Lw_law_494 ?_
        obtain ⟨g155, hg⟩ := tq_gd_s hg
        refine va_sld hx hb hX hbl hbA hS g155 d_Lw_law_495 ?_
        refine lv_aload_n hx hb d_Lw_law_496 rfl (lv_at hl 0 rfl) ?_
        refine lv_iload_n hx hb d_Lw_law_497 rfl (lv_at hl 3 rfl) ?_
        refine lv_iconst (v := 3) hx hb d_Lw_law_498 (by decide) ?_
        refine lv_iadd hx hb d_Lw_law_499 ?_
        obtain ⟨g156, hg⟩ := tq_gd_s hg
        refine va_sld hx hb hX hbl hbA hS g156 d_Lw_law_500 ?_
        obtain ⟨r158, σ159, f157, hg⟩ := tq_ob_s hg
        refine tq_aI (va_runV (As := [.int (xs (x3 + 1).toNatClampNeg), .int (xs (x3 + 2).toNatClampNeg), .int (xs (x3 + 3).toNatClampNeg)]) (rest := [.int r152]) ⟨hx, hb, hml, hown, hts⟩ (c_Mo_has l dC dI cI cL cZ ad tt H.size σ153 (xs (x3 + 1).toNatClampNeg) (xs (x3 + 2).toNatClampNeg) (xs (x3 + 3).toNatClampNeg)  r158 σ159 f157) (cwV 3 hts (tq_gV tw_782 tw_783 tw_784 tw_6 tw_785) rfl rfl rfl (by decide +kernel) ⟨Nat.le_of_ble_eq_true rfl, Nat.le_of_ble_eq_true rfl⟩) ⟨tq_bl, va_recv hK hP (ci := 5) (q0 := 5) rfl rfl, (tq_pr hP hK hD hS hA hZ hN)⟩ rfl rfl hl.1 rfl (lv_room (Nat.le_of_ble_eq_true rfl)) d_Lw_law_501 ⟨Nat.le_of_ble_eq_true rfl, Nat.le_of_ble_eq_true rfl⟩) hD hS hA (fun H locs hP hD hS => ?_)
        refine lv_icmp_eq (tgt := 591) hx hb d_Lw_law_504 (by decide) (fun c160 => ?_) (fun c160 => ?_)
        · replace hg := tq_if_t c160 hg
          obtain ⟨v161, ev161, hg⟩ := tq_lj_s hg
          refine lv_iinc (v := v161) (lv' := [(3, .int v161), (0, .ref b), (1, .ref (ad 0)), (2, .ref (ad 5))]) hx hb d_Lw_law_591 hl (k := 3) rfl (by rw [ev161]; rfl) (by decide) rfl (fun ls hl => ?_)
          refine lv_goto (tgt := 18) hx hb d_Lw_law_594 (by decide) ?_
          exact ih hP hD hS (lv_sub hl [1, 2, 3, 0] rfl) (tq_gi hg hn)
        · replace hg := tq_if_f c160 hg
          refine lv_iconst (v := 0) hx hb d_Lw_law_507 (by decide) ?_
          exact absurd (tq_grI hg hn).1 (by decide)
      replace hg := tq_if_f w201_14 hg
      by_cases w201_15 : v3 = 15
      · replace hg := tq_if_t w201_15 hg
        refine lv_tableIn (tgt := 509) hx hb d_Lw_law_32 (by rw [w201_15]; decide) (by rw [w201_15]; decide) (by rw [w201_15]; rfl) (by decide) ?_
        refine lv_aload_n hx hb d_Lw_law_509 rfl (lv_at hl 1 rfl) ?_
        obtain ⟨r163, σ164, f162, hg⟩ := tq_ob_s hg
        refine tq_aI (va_runV (As := []) (rest := []) ⟨hx, hb, hml, hown, hts⟩ (c_Tn_forget l dC dI cI cL cZ ad tt H.size σ   r163 σ164 f162) (cwV 0 hts (tq_gV tw_458 tw_459 tw_460 tw_1 tw_461) rfl rfl rfl (by decide +kernel) ⟨Nat.le_of_ble_eq_true rfl, Nat.le_of_ble_eq_true rfl⟩) ⟨tq_bl, va_recv hK hP (ci := 0) (q0 := 0) rfl rfl, (tq_pr hP hK hD hS hA hZ hN)⟩ rfl rfl hl.1 rfl (lv_room (Nat.le_of_ble_eq_true rfl)) d_Lw_law_510 ⟨Nat.le_of_ble_eq_true rfl, Nat.le_of_ble_eq_true rfl⟩) hD hS hA (fun H locs hP hD hS => ?_)
        refine lv_aload_n hx hb d_Lw_law_513 rfl (lv_at hl 2 rfl) ?_
        obtain ⟨r166, σ167, f165, hg⟩ := tq_ob_s hg
        refine tq_aI (va_runV (As := []) (rest := [.int r163]) ⟨hx, hb, hml, hown, hts⟩ (c_Mo_forget l dC dI cI cL cZ ad tt H.size σ164   r166 σ167 f165) (cwV 0 hts (tq_gV tw_786 tw_787 tw_788 tw_6 tw_789) rfl rfl rfl (by decide +kernel) ⟨Nat.le_of_ble_eq_true rfl, Nat.le_of_ble_eq_true rfl⟩) ⟨tq_bl, va_recv hK hP (ci := 5) (q0 := 5) rfl rfl, (tq_pr hP hK hD hS hA hZ hN)⟩ rfl rfl hl.1 rfl (lv_room (Nat.le_of_ble_eq_true rfl)) d_Lw_law_514 ⟨Nat.le_of_ble_eq_true rfl, Nat.le_of_ble_eq_true rfl⟩) hD hS hA (fun H locs hP hD hS => ?_)
        refine lv_icmp_eq (tgt := 591) hx hb d_Lw_law_517 (by decide) (fun c168 => ?_) (fun c168 => ?_)
        · replace hg := tq_if_t c168 hg
          obtain ⟨v169, ev169, hg⟩ := tq_lj_s hg
          refine lv_iinc (v := v169) (lv' := [(3, .int v169), (0, .ref b), (1, .ref (ad 0)), (2, .ref (ad 5))]) hx hb d_Lw_law_591 hl (k := 3) rfl (by rw [ev169]; rfl) (by decide) rfl (fun ls hl => ?_)
          refine lv_goto (tgt := 18) hx hb d_Lw_law_594 (by decide) ?_
          exact ih hP hD hS (lv_sub hl [1, 2, 3, 0] rfl) (tq_gi hg hn)
        · replace hg := tq_if_f c168 hg
          refine lv_iconst (v := 0) hx hb d_Lw_law_520 (by decide) ?_
          exact absurd (tq_grI hg hn).1 (by decide)
      replace hg := tq_if_f w201_15 hg
      by_cases w201_16 : v3 = 16
      · replace hg := tq_if_t w201_16 hg
        refine lv_tableIn (tgt := 522) hx hb d_Lw_law_32 (by rw [w201_16]; decide) (by rw [w201_16]; decide) (by rw [w201_16]; rfl) (by decide) ?_
        refine lv_aload_n hx hb d_Lw_law_522 rfl (lv_at hl 1 rfl) ?_
        obtain ⟨r171, σ172, f170, hg⟩ := tq_ob_s hg
        refine tq_aI (va_runV (As := []) (rest := []) ⟨hx, hb, hml, hown, hts⟩ (c_Tn_run l dC dI cI cL cZ ad tt H.size σ   r171 σ172 f170) (cwV 0 hts (tq_gV tw_466 tw_467 tw_468 tw_1 tw_469) rfl rfl rfl (by decide +kernel) ⟨Nat.le_of_ble_eq_true rfl, Nat.le_of_ble_eq_true rfl⟩) ⟨tq_bl, va_recv hK hP (ci := 0) (q0 := 0) rfl rfl, (tq_pr hP hK hD hS hA hZ hN)⟩ rfl rfl hl.1 rfl (lv_room (Nat.le_of_ble_eq_true rfl)) d_Lw_law_523 ⟨Nat.le_of_ble_eq_true rfl, Nat.le_of_ble_eq_true rfl⟩) hD hS hA (fun H locs hP hD hS => ?_)
        refine lv_aload_n hx hb d_Lw_law_526 rfl (lv_at hl 2 rfl) ?_
        obtain ⟨r174, σ175, f173, hg⟩ := tq_ob_s hg
        refine tq_aI (va_runV (As := []) (rest := [.int r171]) ⟨hx, hb, hml, hown, hts⟩ (c_Mo_run l dC dI cI cL cZ ad tt H.size σ172   r174 σ175 f173) (cwV 0 hts (tq_gV tw_790 tw_791 tw_792 tw_6 tw_793) rfl rfl rfl (by decide +kernel) ⟨Nat.le_of_ble_eq_true rfl, Nat.le_of_ble_eq_true rfl⟩) ⟨tq_bl, va_recv hK hP (ci := 5) (q0 := 5) rfl rfl, (tq_pr hP hK hD hS hA hZ hN)⟩ rfl rfl hl.1 rfl (lv_room (Nat.le_of_ble_eq_true rfl)) d_Lw_law_527 ⟨Nat.le_of_ble_eq_true rfl, Nat.le_of_ble_eq_true rfl⟩) hD hS hA (fun H locs hP hD hS => ?_)
        refine lv_icmp_eq (tgt := 591) hx hb d_Lw_law_530 (by decide) (fun c176 => ?_) (fun c176 => ?_)
        · replace hg := tq_if_t c176 hg
          obtain ⟨v177, ev177, hg⟩ := tq_lj_s hg
          refine lv_iinc (v := v177) (lv' := [(3, .int v177), (0, .ref b), (1, .ref (ad 0)), (2, .ref (ad 5))]) hx hb d_Lw_law_591 hl (k := 3) rfl (by rw [ev177]; rfl) (by decide) rfl (fun ls hl => ?_)
          refine lv_goto (tgt := 18) hx hb d_Lw_law_594 (by decide) ?_
          exact ih hP hD hS (lv_sub hl [1, 2, 3, 0] rfl) (tq_gi hg hn)
        · replace hg := tq_if_f c176 hg
          refine lv_iconst (v := 0) hx hb d_Lw_law_533 (by decide) ?_
          exact absurd (tq_grI hg hn).1 (by decide)
      replace hg := tq_if_f w201_16 hg
      by_cases w201_17 : v3 = 17
      · replace hg := tq_if_t w201_17 hg
        refine lv_tableIn (tgt := 535) hx hb d_Lw_law_32 (by rw [w201_17]; decide) (by rw [w201_17]; decide) (by rw [w201_17]; rfl) (by decide) ?_
        refine lv_aload_n hx hb d_Lw_law_535 rfl (lv_at hl 1 rfl) ?_
        refine lv_aload_n hx hb d_Lw_law_536 rfl (lv_at hl 0 rfl) ?_
        refine lv_iload_n hx hb d_Lw_law_537 rfl (lv_at hl 3 rfl) ?_
        refine lv_iconst (v := 1) hx hb d_Lw_law_538 (by decide) ?_
        refine lv_iadd hx hb d_Lw_law_539 ?_
        obtain ⟨g178, hg⟩ := tq_gd_s hg
        refine va_sld hx hb hX hbl hbA hS g178 d_Lw_law_540 ?_
        obtain ⟨r180, σ181, f179, hg⟩ := tq_ob_s hg
        refine tq_aI (va_runV (As := [.int (xs (x3 + 1).toNatClampNeg)]) (rest := []) ⟨hx, hb, hml, hown, hts⟩ (c_Tn_model l dC dI cI cL cZ ad tt H.size σ (xs (x3 + 1).toNatClampNeg)  r180 σ181 f179) (cwV 1 hts (tq_gV tw_572 tw_573 tw_574 tw_1 tw_575) rfl rfl rfl (by decide +kernel) ⟨Nat.le_of_ble_eq_true rfl, Nat.le_of_ble_eq_true rfl⟩) ⟨tq_bl, va_recv hK hP (ci := 0) (q0 := 0) rfl rfl, (tq_pr hP hK hD hS hA hZ hN)⟩ rfl rfl hl.1 rfl (lv_room (Nat.le_of_ble_eq_true rfl)) d_Lw_law_541 ⟨Nat.le_of_ble_eq_true rfl, Nat.le_of_ble_eq_true rfl⟩) hD hS hA (fun H locs hP hD hS => ?_)
        refine lv_aload_n hx hb d_Lw_law_544 rfl (lv_at hl 2 rfl) ?_
        refine lv_aload_n hx hb d_Lw_law_545 rfl (lv_at hl 0 rfl) ?_
        refine lv_iload_n hx hb d_Lw_law_546 rfl (lv_at hl 3 rfl) ?_
        refine lv_iconst (v := 1) hx hb d_Lw_law_547 (by decide) ?_
        refine lv_iadd hx hb d_Lw_law_548 ?_
        obtain ⟨g182, hg⟩ := tq_gd_s hg
        refine va_sld hx hb hX hbl hbA hS g182 d_Lw_law_549 ?_
        obtain ⟨r184, σ185, f183, hg⟩ := tq_ob_s hg
        refine tq_aI (va_runV (As := [.int (xs (x3 + 1).toNatClampNeg)]) (rest := [.int r180]) ⟨hx, hb, hml, hown, hts⟩ (c_Mo_model l dC dI cI cL cZ ad tt H.size σ181 (xs (x3 + 1).toNatClampNeg)  r184 σ185 f183) (cwV 1 hts (tq_gV tw_813 tw_814 tw_815 tw_6 tw_816) rfl rfl rfl (by decide +kernel) ⟨Nat.le_of_ble_eq_true rfl, Nat.le_of_ble_eq_true rfl⟩) ⟨tq_bl, va_recv hK hP (ci := 5) (q0 := 5) rfl rfl, (tq_pr hP hK hD hS hA hZ hN)⟩ rfl rfl hl.1 rfl (lv_room (Nat.le_of_ble_eq_true rfl)) d_Lw_law_550 ⟨Nat.le_of_ble_eq_true rfl, Nat.le_of_ble_eq_true rfl⟩) hD hS hA (fun H locs hP hD hS => ?_)
        refine lv_icmp_eq (tgt := 591) hx hb d_Lw_law_553 (by decide) (fun c186 => ?_) (fun c186 => ?_)
        · replace hg := tq_if_t c186 hg
          obtain ⟨v187, ev187, hg⟩ := tq_lj_s hg
          refine lv_iinc (v := v187) (lv' := [(3, .int v187), (0, .ref b), (1, .ref (ad 0)), (2, .ref (ad 5))]) hx hb d_Lw_law_591 hl (k := 3) rfl (by rw [ev187]; rfl) (by decide) rfl (fun ls hl => ?_)
          refine lv_goto (tgt := 18) hx hb d_Lw_law_594 (by decide) ?_
          exact ih hP hD hS (lv_sub hl [1, 2, 3, 0] rfl) (tq_gi hg hn)
        · replace hg := tq_if_f c186 hg
          refine lv_iconst (v := 0) hx hb d_Lw_law_556 (by decide) ?_
          exact absurd (tq_grI hg hn).1 (by decide)
      replace hg := tq_if_f w201_17 hg
      by_cases w201_18 : v3 = 18
      · replace hg := tq_if_t w201_18 hg
        refine lv_tableIn (tgt := 558) hx hb d_Lw_law_32 (by rw [w201_18]; decide) (by rw [w201_18]; decide) (by rw [w201_18]; rfl) (by decide) ?_
        refine lv_aload_n hx hb d_Lw_law_558 rfl (lv_at hl 1 rfl) ?_
        refine lv_aload_n hx hb d_Lw_law_559 rfl (lv_at hl 0 rfl) ?_
        refine lv_iload_n hx hb d_Lw_law_560 rfl (lv_at hl 3 rfl) ?_
        refine lv_iconst (v := 1) hx hb d_Lw_law_561 (by decide) ?_
        refine lv_iadd hx hb d_Lw_law_562 ?_
        obtain ⟨g188, hg⟩ := tq_gd_s hg
        refine va_sld hx hb hX hbl hbA hS g188 d_Lw_law_563 ?_
        refine lv_aload_n hx hb d_Lw_law_564 rfl (lv_at hl 0 rfl) ?_
        refine lv_iload_n hx hb d_Lw_law_565 rfl (lv_at hl 3 rfl) ?_
        refine lv_iconst (v := 2) hx hb d_Lw_law_566 (by decide) ?_
        refine lv_iadd hx hb d_Lw_law_567 ?_
        obtain ⟨g189, hg⟩ := tq_gd_s hg
        refine va_sld hx hb hX hbl hbA hS g189 d_Lw_law_568 ?_
        obtain ⟨r191, σ192, f190, hg⟩ := tq_ob_s hg
        refine tq_aI (va_runV (As := [.int (xs (x3 + 1).toNatClampNeg), .int (xs (x3 + 2).toNatClampNeg)]) (rest := []) ⟨hx, hb, hml, hown, hts⟩ (c_Tn_surely l dC dI cI cL cZ ad tt H.size σ (xs (x3 + 1).toNatClampNeg) (xs (x3 + 2).toNatClampNeg)  r191 σ192 f190) (cwV 2 hts (tq_gV tw_580 tw_581 tw_582 tw_1 tw_583) rfl rfl rfl (by decide +kernel) ⟨Nat.le_of_ble_eq_true rfl, Nat.le_of_ble_eq_true rfl⟩) ⟨tq_bl, va_recv hK hP (ci := 0) (q0 := 0) rfl rfl, (tq_pr hP hK hD hS hA hZ hN)⟩ rfl rfl hl.1 rfl (lv_room (Nat.le_of_ble_eq_true rfl)) d_Lw_law_569 ⟨Nat.le_of_ble_eq_true rfl, Nat.le_of_ble_eq_true rfl⟩) hD hS hA (fun H locs hP hD hS => ?_)
        refine lv_aload_n hx hb d_Lw_law_572 rfl (lv_at hl 2 rfl) ?_
        refine lv_aload_n hx hb d_Lw_law_573 rfl (lv_at hl 0 rfl) ?_
        refine lv_iload_n hx hb d_Lw_law_574 rfl (lv_at hl 3 rfl) ?_
        refine lv_iconst (v := 1) hx hb d_Lw_law_575 (by decide) ?_
        refine lv_iadd hx hb d_Lw_law_576 ?_
        obtain ⟨g193, hg⟩ := tq_gd_s hg
        refine va_sld hx hb hX hbl hbA hS g193 d_Lw_law_577 ?_
        refine lv_aload_n hx hb d_Lw_law_578 rfl (lv_at hl 0 rfl) ?_
        refine lv_iload_n hx hb d_Lw_law_579 rfl (lv_at hl 3 rfl) ?_
        refine lv_iconst (v := 2) hx hb d_Lw_law_580 (by decide) ?_
        refine lv_iadd hx hb d_Lw_law_581 ?_
        obtain ⟨g194, hg⟩ := tq_gd_s hg
        refine va_sld hx hb hX hbl hbA hS g194 d_Lw_law_582 ?_
        obtain ⟨r196, σ197, f195, hg⟩ := tq_ob_s hg
        refine tq_aI (va_runV (As := [.int (xs (x3 + 1).toNatClampNeg), .int (xs (x3 + 2).toNatClampNeg)]) (rest := [.int r191]) ⟨hx, hb, hml, hown, hts⟩ (c_Mo_surely l dC dI cI cL cZ ad tt H.size σ192 (xs (x3 + 1).toNatClampNeg) (xs (x3 + 2).toNatClampNeg)  r196 σ197 f195) (cwV 2 hts (tq_gV tw_817 tw_818 tw_819 tw_6 tw_820) rfl rfl rfl (by decide +kernel) ⟨Nat.le_of_ble_eq_true rfl, Nat.le_of_ble_eq_true rfl⟩) ⟨tq_bl, va_recv hK hP (ci := 5) (q0 := 5) rfl rfl, (tq_pr hP hK hD hS hA hZ hN)⟩ rfl rfl hl.1 rfl (lv_room (Nat.le_of_ble_eq_true rfl)) d_Lw_law_583 ⟨Nat.le_of_ble_eq_true rfl, Nat.le_of_ble_eq_true rfl⟩) hD hS hA (fun H locs hP hD hS => ?_)
        refine lv_icmp_eq (tgt := 591) hx hb d_Lw_law_586 (by decide) (fun c198 => ?_) (fun c198 => ?_)
        · replace hg := tq_if_t c198 hg
          obtain ⟨v199, ev199, hg⟩ := tq_lj_s hg
          refine lv_iinc (v := v199) (lv' := [(3, .int v199), (0, .ref b), (1, .ref (ad 0)), (2, .ref (ad 5))]) hx hb d_Lw_law_591 hl (k := 3) rfl (by rw [ev199]; rfl) (by decide) rfl (fun ls hl => ?_)
          refine lv_goto (tgt := 18) hx hb d_Lw_law_594 (by decide) ?_
          exact ih hP hD hS (lv_sub hl [1, 2, 3, 0] rfl) (tq_gi hg hn)
        · replace hg := tq_if_f c198 hg
          refine lv_iconst (v := 0) hx hb d_Lw_law_589 (by decide) ?_
          exact absurd (tq_grI hg hn).1 (by decide)
      replace hg := tq_if_f w201_18 hg
      refine lv_tableOut (tgt := 591) hx hb d_Lw_law_32 (by have q0 := tq_ni w201_0 (a := 0) (by decide); have q1 := tq_ni w201_1 (a := 1) (by decide); have q2 := tq_ni w201_2 (a := 2) (by decide); have q3 := tq_ni w201_3 (a := 3) (by decide); have q4 := tq_ni w201_4 (a := 4) (by decide); have q5 := tq_ni w201_5 (a := 5) (by decide); have q6 := tq_ni w201_6 (a := 6) (by decide); have q7 := tq_ni w201_7 (a := 7) (by decide); have q8 := tq_ni w201_8 (a := 8) (by decide); have q9 := tq_ni w201_9 (a := 9) (by decide); have q10 := tq_ni w201_10 (a := 10) (by decide); have q11 := tq_ni w201_11 (a := 11) (by decide); have q12 := tq_ni w201_12 (a := 12) (by decide); have q13 := tq_ni w201_13 (a := 13) (by decide); have q14 := tq_ni w201_14 (a := 14) (by decide); have q15 := tq_ni w201_15 (a := 15) (by decide); have q16 := tq_ni w201_16 (a := 16) (by decide); have q17 := tq_ni w201_17 (a := 17) (by decide); have q18 := tq_ni w201_18 (a := 18) (by decide); omega) (by decide) ?_
      obtain ⟨v200, ev200, hg⟩ := tq_lj_s hg
      refine lv_iinc (v := v200) (lv' := [(3, .int v200), (0, .ref b), (1, .ref (ad 0)), (2, .ref (ad 5))]) hx hb d_Lw_law_591 hl (k := 3) rfl (by rw [ev200]; rfl) (by decide) rfl (fun ls hl => ?_)
      refine lv_goto (tgt := 18) hx hb d_Lw_law_594 (by decide) ?_
      exact ih hP hD hS (lv_sub hl [1, 2, 3, 0] rfl) (tq_gi hg hn)
