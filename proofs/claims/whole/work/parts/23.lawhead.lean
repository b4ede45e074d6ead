def R_law : String := "PatternedDecimalsLaw"
def lw_P (b : Addr) (xs : List Int32) (args : Array Value) (s : State) : Prop := args = #[.ref b] ∧ s.IntsAt b xs ∧ xs.length ≤ 2048 ∧ (Jvm.Cond.and given_1 narrow_1).before args s = true
def lw_Q (_ : Array Value) (s : State) (o : Outcome) (t : State) : Prop := o = .returned (some (.int 1)) ∧ Framed s o t [] 45 1865
def lw_Z (below : List Frame) (a : Array Value) (s : State) : State → Prop := fun t => ∃ o, t.status = .running ∧ Ended t below o ∧ lw_Q a s o t
/-- the law's own end, with 1 on the stack, nothing written that was there before, its room as the claim has it -/
theorem lw_ret {p : Program} {l : Launch} {e : Env} {s : State} {m : MethodId} {below : List Frame} {meth : Method} {c : Code} {b : Nat} (hx : p.tables.exec = Jvm.exec) (hb : c.code = code) (hr : meth.sig.returnType = ret) (hlocks : meth.locks = false) {pc : Nat} {H : Heap} {ls : Array Slot} (hdg : decode code pc = .ok (.ireturn, 1)) : W p l e room_1 s m #[Value.ref b] below meth c H [] 45 1865 (lw_Z below #[Value.ref b] s) (F0 m pc ls [.int 1]) := by
  intro T hT X
  obtain ⟨fs, hret, hrun, hended, hW, hframe⟩ := X.leave (v := some (.int 1)) (hlocks := hlocks) (fun h => by rw [hr] at h; cases h)
  have hmeth' : T.vm.method? m = some meth := X.method'
  refine ⟨T.setFrames fs, ?_, .returned (some (.int 1)), hrun, hended, rfl, ⟨_, rfl⟩, hW, hframe⟩
  jvm_step X.here [X.here.top, hx, hb, hdg, hmeth', hr, ret, narrow_b1]
  (try refine ⟨rfl, ?_⟩); (try refine ⟨rfl, ?_⟩)
  first | (intro acts; rw [hret _ acts rfl rfl rfl]) | rw [hret _ _ rfl rfl rfl]
  exact Steps.refl _
/-- what holds at the law's entry: the machine, the code, the tables' words (any of lw_tbl by 'hts w (by decide +kernel)'), the script of L ints xs at the cell b, what the Statement gives of the start (any of its parts by flat_of_before) -/
def lw_At (p : Program) (s : State) (m : MethodId) (meth : Method) (c : Code) (b L : Nat) (xs : Nat → Int32) : Prop :=
  p.tables.exec = Jvm.exec ∧ c.code = code ∧ meth.sig.returnType = ret ∧ c.maxLocals = 4 ∧ s.vm.findClass R_law = some m.cls ∧ (∀ w ∈ lw_tbl, w.before #[Value.ref b] s = true) ∧ va_X b L xs s s.heap ∧ b < s.heap.size ∧ meth.locks = false ∧ (Jvm.Cond.and given_1 narrow_1).before #[Value.ref b] s = true

theorem d_Law_0 : decode code 0 = .ok (.new 7, 3) := by decide +kernel
theorem d_Law_3 : decode code 3 = .ok (.dup, 1) := by decide +kernel
theorem d_Law_4 : decode code 4 = .ok (.invokespecial 9, 3) := by decide +kernel
theorem d_Law_7 : decode code 7 = .ok (.astore_n 1, 1) := by decide +kernel
theorem d_Law_8 : decode code 8 = .ok (.new 10, 3) := by decide +kernel
theorem d_Law_11 : decode code 11 = .ok (.dup, 1) := by decide +kernel
theorem d_Law_12 : decode code 12 = .ok (.invokespecial 12, 3) := by decide +kernel
theorem d_Law_15 : decode code 15 = .ok (.astore_n 2, 1) := by decide +kernel
theorem d_Law_16 : decode code 16 = .ok (.iconst 0, 1) := by decide +kernel
theorem d_Law_17 : decode code 17 = .ok (.istore_n 3, 1) := by decide +kernel
theorem d_Law_18 : decode code 18 = .ok (.iload_n 3, 1) := by decide +kernel
theorem d_Law_19 : decode code 19 = .ok (.aload_n 0, 1) := by decide +kernel
theorem d_Law_20 : decode code 20 = .ok (.arraylength, 1) := by decide +kernel
theorem d_Law_21 : decode code 21 = .ok (.iconst 4, 1) := by decide +kernel
theorem d_Law_22 : decode code 22 = .ok (.isub, 1) := by decide +kernel
theorem d_Law_23 : decode code 23 = .ok (.if_icmp .gt 394, 3) := by decide +kernel
theorem d_Law_26 : decode code 26 = .ok (.aload_n 0, 1) := by decide +kernel
theorem d_Law_27 : decode code 27 = .ok (.iload_n 3, 1) := by decide +kernel
theorem d_Law_28 : decode code 28 = .ok (.iaload, 1) := by decide +kernel
theorem d_Law_29 : decode code 29 = .ok (.bipush 15, 2) := by decide +kernel
theorem d_Law_31 : decode code 31 = .ok (.iand, 1) := by decide +kernel
theorem d_Law_32 : decode code 32 = .ok (.tableswitch 379 0 13 #[72, 97, 108, 121, 134, 157, 180, 243, 256, 279, 328, 339, 352, 366], 72) := by decide +kernel
theorem d_Law_104 : decode code 104 = .ok (.aload_n 1, 1) := by decide +kernel
theorem d_Law_105 : decode code 105 = .ok (.aload_n 0, 1) := by decide +kernel
theorem d_Law_106 : decode code 106 = .ok (.iload_n 3, 1) := by decide +kernel
theorem d_Law_107 : decode code 107 = .ok (.iconst 1, 1) := by decide +kernel
theorem d_Law_108 : decode code 108 = .ok (.iadd, 1) := by decide +kernel
theorem d_Law_109 : decode code 109 = .ok (.iaload, 1) := by decide +kernel
theorem d_Law_110 : decode code 110 = .ok (.i2c, 1) := by decide +kernel
theorem d_Law_111 : decode code 111 = .ok (.invokevirtual 13, 3) := by decide +kernel
theorem d_Law_114 : decode code 114 = .ok (.aload_n 2, 1) := by decide +kernel
theorem d_Law_115 : decode code 115 = .ok (.aload_n 0, 1) := by decide +kernel
theorem d_Law_116 : decode code 116 = .ok (.iload_n 3, 1) := by decide +kernel
theorem d_Law_117 : decode code 117 = .ok (.iconst 1, 1) := by decide +kernel
theorem d_Law_118 : decode code 118 = .ok (.iadd, 1) := by decide +kernel
theorem d_Law_119 : decode code 119 = .ok (.iaload, 1) := by decide +kernel
theorem d_Law_120 : decode code 120 = .ok (.i2c, 1) := by decide +kernel
theorem d_Law_121 : decode code 121 = .ok (.invokevirtual 17, 3) := by decide +kernel
theorem d_Law_124 : decode code 124 = .ok (.if_icmp .eq 287, 3) := by decide +kernel
theorem d_Law_127 : decode code 127 = .ok (.iconst 0, 1) := by decide +kernel
theorem d_Law_128 : decode code 128 = .ok (.ireturn, 1) := by decide +kernel
theorem d_Law_129 : decode code 129 = .ok (.aload_n 1, 1) := by decide +kernel
theorem d_Law_130 : decode code 130 = .ok (.invokevirtual 18, 3) := by decide +kernel
theorem d_Law_133 : decode code 133 = .ok (.aload_n 2, 1) := by decide +kernel
theorem d_Law_134 : decode code 134 = .ok (.invokevirtual 21, 3) := by decide +kernel
theorem d_Law_137 : decode code 137 = .ok (.goto 274, 3) := by decide +kernel
theorem d_Law_140 : decode code 140 = .ok (.aload_n 1, 1) := by decide +kernel
theorem d_Law_141 : decode code 141 = .ok (.invokevirtual 22, 3) := by decide +kernel
theorem d_Law_144 : decode code 144 = .ok (.aload_n 2, 1) := by decide +kernel
theorem d_Law_145 : decode code 145 = .ok (.invokevirtual 26, 3) := by decide +kernel
theorem d_Law_148 : decode code 148 = .ok (.if_icmp .eq 263, 3) := by decide +kernel
theorem d_Law_151 : decode code 151 = .ok (.iconst 0, 1) := by decide +kernel
theorem d_Law_152 : decode code 152 = .ok (.ireturn, 1) := by decide +kernel
theorem d_Law_153 : decode code 153 = .ok (.aload_n 1, 1) := by decide +kernel
theorem d_Law_154 : decode code 154 = .ok (.invokevirtual 27, 3) := by decide +kernel
theorem d_Law_157 : decode code 157 = .ok (.aload_n 2, 1) := by decide +kernel
theorem d_Law_158 : decode code 158 = .ok (.invokevirtual 30, 3) := by decide +kernel
theorem d_Law_161 : decode code 161 = .ok (.if_icmp .eq 250, 3) := by decide +kernel
theorem d_Law_164 : decode code 164 = .ok (.iconst 0, 1) := by decide +kernel
theorem d_Law_165 : decode code 165 = .ok (.ireturn, 1) := by decide +kernel
theorem d_Law_166 : decode code 166 = .ok (.aload_n 1, 1) := by decide +kernel
theorem d_Law_167 : decode code 167 = .ok (.aload_n 0, 1) := by decide +kernel
theorem d_Law_168 : decode code 168 = .ok (.iload_n 3, 1) := by decide +kernel
theorem d_Law_169 : decode code 169 = .ok (.iconst 1, 1) := by decide +kernel
theorem d_Law_170 : decode code 170 = .ok (.iadd, 1) := by decide +kernel
theorem d_Law_171 : decode code 171 = .ok (.iaload, 1) := by decide +kernel
theorem d_Law_172 : decode code 172 = .ok (.invokevirtual 31, 3) := by decide +kernel
theorem d_Law_175 : decode code 175 = .ok (.aload_n 2, 1) := by decide +kernel
theorem d_Law_176 : decode code 176 = .ok (.aload_n 0, 1) := by decide +kernel
theorem d_Law_177 : decode code 177 = .ok (.iload_n 3, 1) := by decide +kernel
theorem d_Law_178 : decode code 178 = .ok (.iconst 1, 1) := by decide +kernel
theorem d_Law_179 : decode code 179 = .ok (.iadd, 1) := by decide +kernel
theorem d_Law_180 : decode code 180 = .ok (.iaload, 1) := by decide +kernel
theorem d_Law_181 : decode code 181 = .ok (.invokevirtual 35, 3) := by decide +kernel
theorem d_Law_184 : decode code 184 = .ok (.if_icmp .eq 227, 3) := by decide +kernel
theorem d_Law_187 : decode code 187 = .ok (.iconst 0, 1) := by decide +kernel
theorem d_Law_188 : decode code 188 = .ok (.ireturn, 1) := by decide +kernel
theorem d_Law_189 : decode code 189 = .ok (.aload_n 1, 1) := by decide +kernel
theorem d_Law_190 : decode code 190 = .ok (.aload_n 0, 1) := by decide +kernel
theorem d_Law_191 : decode code 191 = .ok (.iload_n 3, 1) := by decide +kernel
theorem d_Law_192 : decode code 192 = .ok (.iconst 1, 1) := by decide +kernel
theorem d_Law_193 : decode code 193 = .ok (.iadd, 1) := by decide +kernel
theorem d_Law_194 : decode code 194 = .ok (.iaload, 1) := by decide +kernel
theorem d_Law_195 : decode code 195 = .ok (.invokevirtual 36, 3) := by decide +kernel
theorem d_Law_198 : decode code 198 = .ok (.aload_n 2, 1) := by decide +kernel
theorem d_Law_199 : decode code 199 = .ok (.aload_n 0, 1) := by decide +kernel
theorem d_Law_200 : decode code 200 = .ok (.iload_n 3, 1) := by decide +kernel
theorem d_Law_201 : decode code 201 = .ok (.iconst 1, 1) := by decide +kernel
theorem d_Law_202 : decode code 202 = .ok (.iadd, 1) := by decide +kernel
theorem d_Law_203 : decode code 203 = .ok (.iaload, 1) := by decide +kernel
theorem d_Law_204 : decode code 204 = .ok (.invokevirtual 40, 3) := by decide +kernel
theorem d_Law_207 : decode code 207 = .ok (.if_icmp .eq 204, 3) := by decide +kernel
theorem d_Law_210 : decode code 210 = .ok (.iconst 0, 1) := by decide +kernel
theorem d_Law_211 : decode code 211 = .ok (.ireturn, 1) := by decide +kernel
theorem d_Law_212 : decode code 212 = .ok (.aload_n 1, 1) := by decide +kernel
theorem d_Law_213 : decode code 213 = .ok (.aload_n 0, 1) := by decide +kernel
theorem d_Law_214 : decode code 214 = .ok (.iload_n 3, 1) := by decide +kernel
theorem d_Law_215 : decode code 215 = .ok (.iconst 1, 1) := by decide +kernel
theorem d_Law_216 : decode code 216 = .ok (.iadd, 1) := by decide +kernel
theorem d_Law_217 : decode code 217 = .ok (.iaload, 1) := by decide +kernel
theorem d_Law_218 : decode code 218 = .ok (.i2l, 1) := by decide +kernel
theorem d_Law_219 : decode code 219 = .ok (.bipush 32, 2) := by decide +kernel
theorem d_Law_221 : decode code 221 = .ok (.lshl, 1) := by decide +kernel
theorem d_Law_222 : decode code 222 = .ok (.aload_n 0, 1) := by decide +kernel
theorem d_Law_223 : decode code 223 = .ok (.iload_n 3, 1) := by decide +kernel
theorem d_Law_224 : decode code 224 = .ok (.iconst 2, 1) := by decide +kernel
theorem d_Law_225 : decode code 225 = .ok (.iadd, 1) := by decide +kernel
theorem d_Law_226 : decode code 226 = .ok (.iaload, 1) := by decide +kernel
theorem d_Law_227 : decode code 227 = .ok (.i2l, 1) := by decide +kernel
theorem d_Law_228 : decode code 228 = .ok (.ldc2_w 41, 3) := by decide +kernel
theorem d_Law_231 : decode code 231 = .ok (.land, 1) := by decide +kernel
theorem d_Law_232 : decode code 232 = .ok (.lor, 1) := by decide +kernel
theorem d_Law_233 : decode code 233 = .ok (.aload_n 0, 1) := by decide +kernel
theorem d_Law_234 : decode code 234 = .ok (.iload_n 3, 1) := by decide +kernel
theorem d_Law_235 : decode code 235 = .ok (.iconst 3, 1) := by decide +kernel
theorem d_Law_236 : decode code 236 = .ok (.iadd, 1) := by decide +kernel
theorem d_Law_237 : decode code 237 = .ok (.iaload, 1) := by decide +kernel
theorem d_Law_238 : decode code 238 = .ok (.invokevirtual 43, 3) := by decide +kernel
theorem d_Law_241 : decode code 241 = .ok (.aload_n 2, 1) := by decide +kernel
theorem d_Law_242 : decode code 242 = .ok (.aload_n 0, 1) := by decide +kernel
theorem d_Law_243 : decode code 243 = .ok (.iload_n 3, 1) := by decide +kernel
theorem d_Law_244 : decode code 244 = .ok (.iconst 1, 1) := by decide +kernel
theorem d_Law_245 : decode code 245 = .ok (.iadd, 1) := by decide +kernel
theorem d_Law_246 : decode code 246 = .ok (.iaload, 1) := by decide +kernel
theorem d_Law_247 : decode code 247 = .ok (.i2l, 1) := by decide +kernel
theorem d_Law_248 : decode code 248 = .ok (.bipush 32, 2) := by decide +kernel
theorem d_Law_250 : decode code 250 = .ok (.lshl, 1) := by decide +kernel
theorem d_Law_251 : decode code 251 = .ok (.aload_n 0, 1) := by decide +kernel
theorem d_Law_252 : decode code 252 = .ok (.iload_n 3, 1) := by decide +kernel
theorem d_Law_253 : decode code 253 = .ok (.iconst 2, 1) := by decide +kernel
theorem d_Law_254 : decode code 254 = .ok (.iadd, 1) := by decide +kernel
theorem d_Law_255 : decode code 255 = .ok (.iaload, 1) := by decide +kernel
theorem d_Law_256 : decode code 256 = .ok (.i2l, 1) := by decide +kernel
theorem d_Law_257 : decode code 257 = .ok (.ldc2_w 41, 3) := by decide +kernel
theorem d_Law_260 : decode code 260 = .ok (.land, 1) := by decide +kernel
theorem d_Law_261 : decode code 261 = .ok (.lor, 1) := by decide +kernel
theorem d_Law_262 : decode code 262 = .ok (.aload_n 0, 1) := by decide +kernel
theorem d_Law_263 : decode code 263 = .ok (.iload_n 3, 1) := by decide +kernel
theorem d_Law_264 : decode code 264 = .ok (.iconst 3, 1) := by decide +kernel
theorem d_Law_265 : decode code 265 = .ok (.iadd, 1) := by decide +kernel
theorem d_Law_266 : decode code 266 = .ok (.iaload, 1) := by decide +kernel
theorem d_Law_267 : decode code 267 = .ok (.invokevirtual 47, 3) := by decide +kernel
theorem d_Law_270 : decode code 270 = .ok (.if_icmp .eq 141, 3) := by decide +kernel
theorem d_Law_273 : decode code 273 = .ok (.iconst 0, 1) := by decide +kernel
theorem d_Law_274 : decode code 274 = .ok (.ireturn, 1) := by decide +kernel
theorem d_Law_275 : decode code 275 = .ok (.aload_n 1, 1) := by decide +kernel
theorem d_Law_276 : decode code 276 = .ok (.invokevirtual 48, 3) := by decide +kernel
theorem d_Law_279 : decode code 279 = .ok (.aload_n 2, 1) := by decide +kernel
theorem d_Law_280 : decode code 280 = .ok (.invokevirtual 51, 3) := by decide +kernel
theorem d_Law_283 : decode code 283 = .ok (.if_icmp .eq 128, 3) := by decide +kernel
theorem d_Law_286 : decode code 286 = .ok (.iconst 0, 1) := by decide +kernel
theorem d_Law_287 : decode code 287 = .ok (.ireturn, 1) := by decide +kernel
theorem d_Law_288 : decode code 288 = .ok (.aload_n 1, 1) := by decide +kernel
theorem d_Law_289 : decode code 289 = .ok (.aload_n 0, 1) := by decide +kernel
theorem d_Law_290 : decode code 290 = .ok (.iload_n 3, 1) := by decide +kernel
theorem d_Law_291 : decode code 291 = .ok (.iconst 1, 1) := by decide +kernel
theorem d_Law_292 : decode code 292 = .ok (.iadd, 1) := by decide +kernel
theorem d_Law_293 : decode code 293 = .ok (.iaload, 1) := by decide +kernel
theorem d_Law_294 : decode code 294 = .ok (.invokevirtual 52, 3) := by decide +kernel
theorem d_Law_297 : decode code 297 = .ok (.aload_n 2, 1) := by decide +kernel
theorem d_Law_298 : decode code 298 = .ok (.aload_n 0, 1) := by decide +kernel
theorem d_Law_299 : decode code 299 = .ok (.iload_n 3, 1) := by decide +kernel
theorem d_Law_300 : decode code 300 = .ok (.iconst 1, 1) := by decide +kernel
theorem d_Law_301 : decode code 301 = .ok (.iadd, 1) := by decide +kernel
theorem d_Law_302 : decode code 302 = .ok (.iaload, 1) := by decide +kernel
theorem d_Law_303 : decode code 303 = .ok (.invokevirtual 55, 3) := by decide +kernel
theorem d_Law_306 : decode code 306 = .ok (.if_icmp .eq 105, 3) := by decide +kernel
theorem d_Law_309 : decode code 309 = .ok (.iconst 0, 1) := by decide +kernel
theorem d_Law_310 : decode code 310 = .ok (.ireturn, 1) := by decide +kernel
theorem d_Law_311 : decode code 311 = .ok (.aload_n 1, 1) := by decide +kernel
theorem d_Law_312 : decode code 312 = .ok (.aload_n 0, 1) := by decide +kernel
theorem d_Law_313 : decode code 313 = .ok (.iload_n 3, 1) := by decide +kernel
theorem d_Law_314 : decode code 314 = .ok (.iconst 1, 1) := by decide +kernel
theorem d_Law_315 : decode code 315 = .ok (.iadd, 1) := by decide +kernel
theorem d_Law_316 : decode code 316 = .ok (.iaload, 1) := by decide +kernel
theorem d_Law_317 : decode code 317 = .ok (.aload_n 0, 1) := by decide +kernel
theorem d_Law_318 : decode code 318 = .ok (.iload_n 3, 1) := by decide +kernel
theorem d_Law_319 : decode code 319 = .ok (.iconst 2, 1) := by decide +kernel
theorem d_Law_320 : decode code 320 = .ok (.iadd, 1) := by decide +kernel
theorem d_Law_321 : decode code 321 = .ok (.iaload, 1) := by decide +kernel
theorem d_Law_322 : decode code 322 = .ok (.ifCond .eq 7, 3) := by decide +kernel
theorem d_Law_325 : decode code 325 = .ok (.iconst 1, 1) := by decide +kernel
theorem d_Law_326 : decode code 326 = .ok (.goto 4, 3) := by decide +kernel
theorem d_Law_329 : decode code 329 = .ok (.iconst 0, 1) := by decide +kernel
theorem d_Law_330 : decode code 330 = .ok (.invokevirtual 56, 3) := by decide +kernel
theorem d_Law_333 : decode code 333 = .ok (.aload_n 2, 1) := by decide +kernel
theorem d_Law_334 : decode code 334 = .ok (.aload_n 0, 1) := by decide +kernel
theorem d_Law_335 : decode code 335 = .ok (.iload_n 3, 1) := by decide +kernel
theorem d_Law_336 : decode code 336 = .ok (.iconst 1, 1) := by decide +kernel
theorem d_Law_337 : decode code 337 = .ok (.iadd, 1) := by decide +kernel
theorem d_Law_338 : decode code 338 = .ok (.iaload, 1) := by decide +kernel
theorem d_Law_339 : decode code 339 = .ok (.aload_n 0, 1) := by decide +kernel
theorem d_Law_340 : decode code 340 = .ok (.iload_n 3, 1) := by decide +kernel
theorem d_Law_341 : decode code 341 = .ok (.iconst 2, 1) := by decide +kernel
theorem d_Law_342 : decode code 342 = .ok (.iadd, 1) := by decide +kernel
theorem d_Law_343 : decode code 343 = .ok (.iaload, 1) := by decide +kernel
theorem d_Law_344 : decode code 344 = .ok (.ifCond .eq 7, 3) := by decide +kernel
theorem d_Law_347 : decode code 347 = .ok (.iconst 1, 1) := by decide +kernel
theorem d_Law_348 : decode code 348 = .ok (.goto 4, 3) := by decide +kernel
theorem d_Law_351 : decode code 351 = .ok (.iconst 0, 1) := by decide +kernel
theorem d_Law_352 : decode code 352 = .ok (.invokevirtual 60, 3) := by decide +kernel
theorem d_Law_355 : decode code 355 = .ok (.if_icmp .eq 56, 3) := by decide +kernel
theorem d_Law_358 : decode code 358 = .ok (.iconst 0, 1) := by decide +kernel
theorem d_Law_359 : decode code 359 = .ok (.ireturn, 1) := by decide +kernel
theorem d_Law_360 : decode code 360 = .ok (.aload_n 1, 1) := by decide +kernel
theorem d_Law_361 : decode code 361 = .ok (.invokevirtual 61, 3) := by decide +kernel
theorem d_Law_364 : decode code 364 = .ok (.aload_n 2, 1) := by decide +kernel
theorem d_Law_365 : decode code 365 = .ok (.invokevirtual 64, 3) := by decide +kernel
theorem d_Law_368 : decode code 368 = .ok (.goto 43, 3) := by decide +kernel
theorem d_Law_371 : decode code 371 = .ok (.aload_n 1, 1) := by decide +kernel
theorem d_Law_372 : decode code 372 = .ok (.invokevirtual 65, 3) := by decide +kernel
theorem d_Law_375 : decode code 375 = .ok (.aload_n 2, 1) := by decide +kernel
theorem d_Law_376 : decode code 376 = .ok (.invokevirtual 69, 3) := by decide +kernel
theorem d_Law_379 : decode code 379 = .ok (.if_icmp .eq 32, 3) := by decide +kernel
theorem d_Law_382 : decode code 382 = .ok (.iconst 0, 1) := by decide +kernel
theorem d_Law_383 : decode code 383 = .ok (.ireturn, 1) := by decide +kernel
theorem d_Law_384 : decode code 384 = .ok (.aload_n 1, 1) := by decide +kernel
theorem d_Law_385 : decode code 385 = .ok (.invokevirtual 70, 3) := by decide +kernel
theorem d_Law_388 : decode code 388 = .ok (.aload_n 2, 1) := by decide +kernel
theorem d_Law_389 : decode code 389 = .ok (.invokevirtual 74, 3) := by decide +kernel
theorem d_Law_392 : decode code 392 = .ok (.lcmp, 1) := by decide +kernel
theorem d_Law_393 : decode code 393 = .ok (.ifCond .eq 18, 3) := by decide +kernel
theorem d_Law_396 : decode code 396 = .ok (.iconst 0, 1) := by decide +kernel
theorem d_Law_397 : decode code 397 = .ok (.ireturn, 1) := by decide +kernel
theorem d_Law_398 : decode code 398 = .ok (.aload_n 1, 1) := by decide +kernel
theorem d_Law_399 : decode code 399 = .ok (.invokevirtual 75, 3) := by decide +kernel
theorem d_Law_402 : decode code 402 = .ok (.aload_n 2, 1) := by decide +kernel
theorem d_Law_403 : decode code 403 = .ok (.invokevirtual 78, 3) := by decide +kernel
theorem d_Law_406 : decode code 406 = .ok (.if_icmp .eq 5, 3) := by decide +kernel
theorem d_Law_409 : decode code 409 = .ok (.iconst 0, 1) := by decide +kernel
theorem d_Law_410 : decode code 410 = .ok (.ireturn, 1) := by decide +kernel
theorem d_Law_411 : decode code 411 = .ok (.iinc 3 4, 3) := by decide +kernel
theorem d_Law_414 : decode code 414 = .ok (.goto (-396), 3) := by decide +kernel
theorem d_Law_417 : decode code 417 = .ok (.iconst 1, 1) := by decide +kernel
theorem d_Law_418 : decode code 418 = .ok (.ireturn, 1) := by decide +kernel
section XLAW
variable {p : Program} {l : Launch} {e : Env} {R : Room} {s : State} {m : MethodId} {args : Array Value} {below : List Frame} {meth : Method} {c : Code} {H : Heap} {locs : List Loc} {Q : State → Prop} {A : Nat → Prop} {D : va_G} {cC cI : ClassId} {cc : ByteArray} {nL : Nat} {own : String} {rt ret : Option FieldType} {ws wc : va_W} {pc : Nat} {ls : Array Slot} {st0 rest As : List Value} {b : Nat}
variable {y : MethodName} {bytes : ByteArray} {maxL index : Nat} {rm : Room} {cells slots : Nat} {Qc : Array Value → State → Outcome → State → Prop} {host : String}
theorem xl_runV {C : String} {T : u_T} {N ci : Nat} {fs : List Value} (X : xCX p s m args meth c A D cC cI cc nL own rt) (hM : Met l y (Cond.code y bytes maxL ret :: BIG) rm (va_Pc (.ref b :: As) (xPre D cC cI wc H.size)) Qc 0 0 (va_A wc H.size)) (hcode : Cond.code y bytes maxL ret ∈ BIG) (n : Nat)
    (hl : (Cond.methodLink own index y).before args s = true) (hins : (Cond.instanceMethod y).before args s = true) (hsel : (Cond.selects C y y).before args s = true) (hini : (Cond.initialized y.cls).before args s = true)
    (hd : y.cls ≠ "java/lang/invoke/MethodHandle" ∧ y.cls ≠ "java/lang/invoke/VarHandle" ∧ (parseMethodDescriptor y.desc).map (fun d => d.parameters.length) = some n) (hR : rm.frames + 1 ≤ R.frames ∧ 8 + (maxL + 11) + rm.locals ≤ R.locals)
    (q0 : Nat) (he : ws[q0]? = some (b, .inr (ci, fs))) (hc : classes[ci]? = some (C, T, N)) (hP : va_P D classes ws H) (hD : va_D A ws) (hS : va_S A s.heap H locs) (isC : List Nat) (hC : isC.map (fun i => ws[i]?) = wc.map some) (hnC : va_nd isC = true)
    (hrc : rm.cells = 0) (hrs : rm.slots = 0) (hsize : ls.size = nL) (hn : As.length = n) (hst : st0 = As.reverse ++ .ref b :: rest) (hroom : (rest.map fun v => v.category).sum ≤ 8) (hdg : decode cc pc = .ok (.invokevirtual index, 3)) (hf : cells + 0 ≤ R.cells ∧ slots + 0 ≤ R.slots) :
    va_Run p l e R s m args below meth c H locs cells slots 0 0 (F0 m pc ls st0) rest (Qc (Value.ref b :: As).toArray) (va_A wc H.size) := by
  have hpre := x_pre X hP hD hS isC hC hnC
  obtain ⟨hx, hb, hml, hown, htB, hG, hZ, hA, hr, hlocks⟩ := X
  exact va_runV (C := C) ⟨hx, hb, hml, hown, htB⟩ hM ⟨callB_of n htB (x_good hcode) rfl hrc hrs hini hl hd hR, hins, hsel⟩ ⟨x_blind, va_recv hG.1 hP hc he, fun U hU hW => ⟨rfl, hpre U hU hW⟩⟩ rfl hn hsize hst (lv_room hroom) hdg hf
theorem xl_calli {a : Array Value} {r0 : Int32} {w1 ws2 : va_W} (hr : va_Run p l e R s m args below meth c H locs cells slots 0 0 (F0 m pc ls st0) rest (va_Qi (fun r (_ : Unit) => r = r0) (fun _ t => va_P D classes w1 t.heap ∧ va_D (va_A wc H.size) w1) (va_A wc H.size) a) (va_A wc H.size))
    (hP : va_P D classes ws H) (hD : va_D A ws) (hS : va_S A s.heap H locs) (hA : ∀ q, s.heap.size ≤ q → A q) (isC isR perm : List Nat) (hC : isC.map (fun i => ws[i]?) = wc.map some) (hR : isR.map (fun i => ws[i]?) = (isR.filterMap (fun i => ws[i]?)).map some) (hn : va_nd isR = true) (hdis : ∀ i ∈ isR, i ∉ isC) (hp : perm.map (fun i => (isR.filterMap (fun i => ws[i]?) ++ w1)[i]?) = ws2.map some) (hpn : va_nd perm = true)
    (kk : ∀ (H1 : Heap) (locs1 : List Loc), va_P D classes ws2 H1 → va_D A ws2 → va_S A s.heap H1 locs1 → W p l e R s m args below meth c H1 locs1 cells slots Q (F0 m (pc + 3) ls (.int r0 :: rest))) : W p l e R s m args below meth c H locs cells slots Q (F0 m pc ls st0) := by
  have hF := va_free (wc := wc) hD hS hA isC hC
  refine va_calli hr hS (fun q _ h => hF q h) hF (fun r u t H1 locs1 ht hvm hw hB hz hk hS1 => ?_)
  obtain ⟨hP1, hD1⟩ := hB
  rw [ht] at hP1
  obtain ⟨g1, g2⟩ := x_join hP hD hS hA isC isR perm hC hR hn hdis hp hpn hk hP1 hD1
  subst hw
  exact kk H1 locs1 g1 g2 hS1
theorem xl_calll {a : Array Value} {r0 : Int64} {w1 ws2 : va_W} (hr : va_Run p l e R s m args below meth c H locs cells slots 0 0 (F0 m pc ls st0) rest (va_Ql (fun r (_ : Unit) => r = r0) (fun _ t => va_P D classes w1 t.heap ∧ va_D (va_A wc H.size) w1) (va_A wc H.size) a) (va_A wc H.size))
    (hP : va_P D classes ws H) (hD : va_D A ws) (hS : va_S A s.heap H locs) (hA : ∀ q, s.heap.size ≤ q → A q) (isC isR perm : List Nat) (hC : isC.map (fun i => ws[i]?) = wc.map some) (hR : isR.map (fun i => ws[i]?) = (isR.filterMap (fun i => ws[i]?)).map some) (hn : va_nd isR = true) (hdis : ∀ i ∈ isR, i ∉ isC) (hp : perm.map (fun i => (isR.filterMap (fun i => ws[i]?) ++ w1)[i]?) = ws2.map some) (hpn : va_nd perm = true)
    (kk : ∀ (H1 : Heap) (locs1 : List Loc), va_P D classes ws2 H1 → va_D A ws2 → va_S A s.heap H1 locs1 → W p l e R s m args below meth c H1 locs1 cells slots Q (F0 m (pc + 3) ls (.long r0 :: rest))) : W p l e R s m args below meth c H locs cells slots Q (F0 m pc ls st0) := by
  have hF := va_free (wc := wc) hD hS hA isC hC
  refine va_calll hr hS (fun q _ h => hF q h) hF (fun r u t H1 locs1 ht hvm hw hB hz hk hS1 => ?_)
  obtain ⟨hP1, hD1⟩ := hB
  rw [ht] at hP1
  obtain ⟨g1, g2⟩ := x_join hP hD hS hA isC isR perm hC hR hn hdis hp hpn hk hP1 hD1
  subst hw
  exact kk H1 locs1 g1 g2 hS1
theorem xl_callv {a : Array Value} {w1 ws2 : va_W} (hr : va_Run p l e R s m args below meth c H locs cells slots 0 0 (F0 m pc ls st0) rest (va_Qv (fun _ : Unit => True) (fun _ t => va_P D classes w1 t.heap ∧ va_D (va_A wc H.size) w1) (va_A wc H.size) a) (va_A wc H.size))
    (hP : va_P D classes ws H) (hD : va_D A ws) (hS : va_S A s.heap H locs) (hA : ∀ q, s.heap.size ≤ q → A q) (isC isR perm : List Nat) (hC : isC.map (fun i => ws[i]?) = wc.map some) (hR : isR.map (fun i => ws[i]?) = (isR.filterMap (fun i => ws[i]?)).map some) (hn : va_nd isR = true) (hdis : ∀ i ∈ isR, i ∉ isC) (hp : perm.map (fun i => (isR.filterMap (fun i => ws[i]?) ++ w1)[i]?) = ws2.map some) (hpn : va_nd perm = true)
    (kk : ∀ (H1 : Heap) (locs1 : List Loc), va_P D classes ws2 H1 → va_D A ws2 → va_S A s.heap H1 locs1 → W p l e R s m args below meth c H1 locs1 cells slots Q (F0 m (pc + 3) ls rest)) : W p l e R s m args below meth c H locs cells slots Q (F0 m pc ls st0) := by
  have hF := va_free (wc := wc) hD hS hA isC hC
  refine va_callv hr hS (fun q _ h => hF q h) hF (fun u t H1 locs1 ht hvm hw hB hz hk hS1 => ?_)
  obtain ⟨hP1, hD1⟩ := hB
  rw [ht] at hP1
  obtain ⟨g1, g2⟩ := x_join hP hD hS hA isC isR perm hC hR hn hdis hp hpn hk hP1 hD1
  exact kk H1 locs1 g1 g2 hS1
end XLAW
theorem lg_cmp_self (x : Int64) : lg_cmp x x = 0 := by
  have h : ¬ x > x := Int64.lt_irrefl
  unfold lg_cmp
  rw [if_neg h, if_pos rfl]
theorem law_le {k L : Nat} (hk : k ≤ L) (hL : L ≤ 2048) (h : ¬ nI L - (4 : Int32) < nI k) : k + 4 ≤ L := by
  rw [Int32.lt_iff_toInt_lt, show (4 : Int32) = nI 4 from rfl, pk_sub_toInt (by omega) (by omega), nI_toInt (by omega)] at h
  omega
theorem law_in {k L j : Nat} (h : k + 4 ≤ L) (hL : L ≤ 2048) (hj : j < 4) : vp_in (nI k + nI j) L := by
  rw [nI_add]
  exact vp_in_nI (by omega) (by omega)
