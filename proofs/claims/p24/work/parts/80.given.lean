/-! THE CLAIM OUT OF ONE WALK OF THE LAW'S BODY. Your part is whole_start (and what it stands on); all else here is the same for every law, but numbers. -/
def R_law : String := "MapleLinesLaw"
def lw_P (b : Addr) (xs : List Int32) (args : Array Value) (s : State) : Prop := args = #[.ref b] ∧ s.IntsAt b xs ∧ xs.length ≤ 3072 ∧ (Jvm.Cond.and given_1 narrow_1).before args s = true
def lw_Q (_ : Array Value) (s : State) (o : Outcome) (t : State) : Prop := o = .returned (some (.int 1)) ∧ Framed s o t [] 600000 7302250
def lw_Z (below : List Frame) (a : Array Value) (s : State) : State → Prop := fun t => ∃ o, t.status = .running ∧ Ended t below o ∧ lw_Q a s o t
/-- the law's own end, with 1 on the stack, nothing written that was there before, its room as the claim has it -/
theorem lw_ret {p : Program} {l : Launch} {e : Env} {s : State} {m : MethodId} {below : List Frame} {meth : Method} {c : Code} {b : Nat} (hx : p.tables.exec = Jvm.exec) (hb : c.code = code) (hr : meth.sig.returnType = ret) (hlocks : meth.locks = false) {pc : Nat} {H : Heap} {ls : Array Slot} (hdg : decode code pc = .ok (.ireturn, 1)) : W p l e room_1 s m #[Value.ref b] below meth c H [] 600000 7302250 (lw_Z below #[Value.ref b] s) (F0 m pc ls [.int 1]) := by
  intro T hT X
  obtain ⟨fs, hret, hrun, hended, hW, hframe⟩ := X.leave (v := some (.int 1)) (hlocks := hlocks) (fun h => by rw [hr] at h; cases h)
  have hmeth' : T.vm.method? m = some meth := X.method'
  refine ⟨T.setFrames fs, ?_, .returned (some (.int 1)), hrun, hended, rfl, ⟨_, rfl⟩, hW, hframe⟩
  jvm_step X.here [X.here.top, hx, hb, hdg, hmeth', hr, ret, narrow_b1]
  (try refine ⟨rfl, ?_⟩); (try refine ⟨rfl, ?_⟩)
  first | (intro acts; rw [hret _ acts rfl rfl rfl]) | rw [hret _ _ rfl rfl rfl]
  exact Steps.refl _
/-- what holds at the law's entry: the machine, the code, the tables' words (any of lw_tbl by 'hts w (by decide +kernel)'), the script of L ints xs at the cell b, what the Statement gives of the start (any of its parts by flat_of_before) -/
def lw_At (p : Program) (s : State) (m : MethodId) (meth : Method) (c : Code) (b L : Nat) (xs : Nat → Int32) : Prop :=
  p.tables.exec = Jvm.exec ∧ c.code = code ∧ meth.sig.returnType = ret ∧ c.maxLocals = 4 ∧ s.vm.findClass R_law = some m.cls ∧ (∀ w ∈ lw_tbl, w.before #[Value.ref b] s = true) ∧ va_X b L xs s s.heap ∧ b < s.heap.size ∧ meth.locks = false ∧ (Jvm.Cond.and given_1 narrow_1).before #[Value.ref b] s = true
theorem dL_law_0 : decode code 0 = .ok (.new 7, 3) := by decide +kernel
theorem dL_law_3 : decode code 3 = .ok (.dup, 1) := by decide +kernel
theorem dL_law_4 : decode code 4 = .ok (.invokespecial 9, 3) := by decide +kernel
theorem dL_law_7 : decode code 7 = .ok (.astore_n 1, 1) := by decide +kernel
theorem dL_law_8 : decode code 8 = .ok (.new 10, 3) := by decide +kernel
theorem dL_law_11 : decode code 11 = .ok (.dup, 1) := by decide +kernel
theorem dL_law_12 : decode code 12 = .ok (.invokespecial 12, 3) := by decide +kernel
theorem dL_law_15 : decode code 15 = .ok (.astore_n 2, 1) := by decide +kernel
theorem dL_law_16 : decode code 16 = .ok (.iconst 0, 1) := by decide +kernel
theorem dL_law_17 : decode code 17 = .ok (.istore_n 3, 1) := by decide +kernel
theorem dL_law_18 : decode code 18 = .ok (.iload_n 3, 1) := by decide +kernel
theorem dL_law_19 : decode code 19 = .ok (.aload_n 0, 1) := by decide +kernel
theorem dL_law_20 : decode code 20 = .ok (.arraylength, 1) := by decide +kernel
theorem dL_law_21 : decode code 21 = .ok (.bipush 6, 2) := by decide +kernel
theorem dL_law_23 : decode code 23 = .ok (.isub, 1) := by decide +kernel
theorem dL_law_24 : decode code 24 = .ok (.if_icmp .gt 858, 3) := by decide +kernel
theorem dL_law_27 : decode code 27 = .ok (.aload_n 0, 1) := by decide +kernel
theorem dL_law_28 : decode code 28 = .ok (.iload_n 3, 1) := by decide +kernel
theorem dL_law_29 : decode code 29 = .ok (.iaload, 1) := by decide +kernel
theorem dL_law_30 : decode code 30 = .ok (.bipush 31, 2) := by decide +kernel
theorem dL_law_32 : decode code 32 = .ok (.iand, 1) := by decide +kernel
theorem dL_law_33 : decode code 33 = .ok (.tableswitch 843 0 23 #[111, 164, 197, 230, 263, 286, 319, 352, 385, 418, 431, 474, 497, 510, 533, 556, 579, 622, 655, 688, 721, 784, 807, 820], 111) := by decide +kernel
theorem dL_law_144 : decode code 144 = .ok (.aload_n 1, 1) := by decide +kernel
theorem dL_law_145 : decode code 145 = .ok (.aload_n 0, 1) := by decide +kernel
theorem dL_law_146 : decode code 146 = .ok (.iload_n 3, 1) := by decide +kernel
theorem dL_law_147 : decode code 147 = .ok (.iconst 1, 1) := by decide +kernel
theorem dL_law_148 : decode code 148 = .ok (.iadd, 1) := by decide +kernel
theorem dL_law_149 : decode code 149 = .ok (.iaload, 1) := by decide +kernel
theorem dL_law_150 : decode code 150 = .ok (.aload_n 0, 1) := by decide +kernel
theorem dL_law_151 : decode code 151 = .ok (.iload_n 3, 1) := by decide +kernel
theorem dL_law_152 : decode code 152 = .ok (.iconst 2, 1) := by decide +kernel
theorem dL_law_153 : decode code 153 = .ok (.iadd, 1) := by decide +kernel
theorem dL_law_154 : decode code 154 = .ok (.iaload, 1) := by decide +kernel
theorem dL_law_155 : decode code 155 = .ok (.aload_n 0, 1) := by decide +kernel
theorem dL_law_156 : decode code 156 = .ok (.iload_n 3, 1) := by decide +kernel
theorem dL_law_157 : decode code 157 = .ok (.iconst 3, 1) := by decide +kernel
theorem dL_law_158 : decode code 158 = .ok (.iadd, 1) := by decide +kernel
theorem dL_law_159 : decode code 159 = .ok (.iaload, 1) := by decide +kernel
theorem dL_law_160 : decode code 160 = .ok (.aload_n 0, 1) := by decide +kernel
theorem dL_law_161 : decode code 161 = .ok (.iload_n 3, 1) := by decide +kernel
theorem dL_law_162 : decode code 162 = .ok (.iconst 4, 1) := by decide +kernel
theorem dL_law_163 : decode code 163 = .ok (.iadd, 1) := by decide +kernel
theorem dL_law_164 : decode code 164 = .ok (.iaload, 1) := by decide +kernel
theorem dL_law_165 : decode code 165 = .ok (.invokevirtual 13, 3) := by decide +kernel
theorem dL_law_168 : decode code 168 = .ok (.pop, 1) := by decide +kernel
theorem dL_law_169 : decode code 169 = .ok (.aload_n 2, 1) := by decide +kernel
theorem dL_law_170 : decode code 170 = .ok (.aload_n 0, 1) := by decide +kernel
theorem dL_law_171 : decode code 171 = .ok (.iload_n 3, 1) := by decide +kernel
theorem dL_law_172 : decode code 172 = .ok (.iconst 1, 1) := by decide +kernel
theorem dL_law_173 : decode code 173 = .ok (.iadd, 1) := by decide +kernel
theorem dL_law_174 : decode code 174 = .ok (.iaload, 1) := by decide +kernel
theorem dL_law_175 : decode code 175 = .ok (.aload_n 0, 1) := by decide +kernel
theorem dL_law_176 : decode code 176 = .ok (.iload_n 3, 1) := by decide +kernel
theorem dL_law_177 : decode code 177 = .ok (.iconst 2, 1) := by decide +kernel
theorem dL_law_178 : decode code 178 = .ok (.iadd, 1) := by decide +kernel
theorem dL_law_179 : decode code 179 = .ok (.iaload, 1) := by decide +kernel
theorem dL_law_180 : decode code 180 = .ok (.aload_n 0, 1) := by decide +kernel
theorem dL_law_181 : decode code 181 = .ok (.iload_n 3, 1) := by decide +kernel
theorem dL_law_182 : decode code 182 = .ok (.iconst 3, 1) := by decide +kernel
theorem dL_law_183 : decode code 183 = .ok (.iadd, 1) := by decide +kernel
theorem dL_law_184 : decode code 184 = .ok (.iaload, 1) := by decide +kernel
theorem dL_law_185 : decode code 185 = .ok (.aload_n 0, 1) := by decide +kernel
theorem dL_law_186 : decode code 186 = .ok (.iload_n 3, 1) := by decide +kernel
theorem dL_law_187 : decode code 187 = .ok (.iconst 4, 1) := by decide +kernel
theorem dL_law_188 : decode code 188 = .ok (.iadd, 1) := by decide +kernel
theorem dL_law_189 : decode code 189 = .ok (.iaload, 1) := by decide +kernel
theorem dL_law_190 : decode code 190 = .ok (.invokevirtual 17, 3) := by decide +kernel
theorem dL_law_193 : decode code 193 = .ok (.pop, 1) := by decide +kernel
theorem dL_law_194 : decode code 194 = .ok (.goto 682, 3) := by decide +kernel
theorem dL_law_197 : decode code 197 = .ok (.aload_n 1, 1) := by decide +kernel
theorem dL_law_198 : decode code 198 = .ok (.aload_n 0, 1) := by decide +kernel
theorem dL_law_199 : decode code 199 = .ok (.iload_n 3, 1) := by decide +kernel
theorem dL_law_200 : decode code 200 = .ok (.iconst 1, 1) := by decide +kernel
theorem dL_law_201 : decode code 201 = .ok (.iadd, 1) := by decide +kernel
theorem dL_law_202 : decode code 202 = .ok (.iaload, 1) := by decide +kernel
theorem dL_law_203 : decode code 203 = .ok (.aload_n 0, 1) := by decide +kernel
theorem dL_law_204 : decode code 204 = .ok (.iload_n 3, 1) := by decide +kernel
theorem dL_law_205 : decode code 205 = .ok (.iconst 2, 1) := by decide +kernel
theorem dL_law_206 : decode code 206 = .ok (.iadd, 1) := by decide +kernel
theorem dL_law_207 : decode code 207 = .ok (.iaload, 1) := by decide +kernel
theorem dL_law_208 : decode code 208 = .ok (.invokevirtual 18, 3) := by decide +kernel
theorem dL_law_211 : decode code 211 = .ok (.pop, 1) := by decide +kernel
theorem dL_law_212 : decode code 212 = .ok (.aload_n 2, 1) := by decide +kernel
theorem dL_law_213 : decode code 213 = .ok (.aload_n 0, 1) := by decide +kernel
theorem dL_law_214 : decode code 214 = .ok (.iload_n 3, 1) := by decide +kernel
theorem dL_law_215 : decode code 215 = .ok (.iconst 1, 1) := by decide +kernel
theorem dL_law_216 : decode code 216 = .ok (.iadd, 1) := by decide +kernel
theorem dL_law_217 : decode code 217 = .ok (.iaload, 1) := by decide +kernel
theorem dL_law_218 : decode code 218 = .ok (.aload_n 0, 1) := by decide +kernel
theorem dL_law_219 : decode code 219 = .ok (.iload_n 3, 1) := by decide +kernel
theorem dL_law_220 : decode code 220 = .ok (.iconst 2, 1) := by decide +kernel
theorem dL_law_221 : decode code 221 = .ok (.iadd, 1) := by decide +kernel
theorem dL_law_222 : decode code 222 = .ok (.iaload, 1) := by decide +kernel
theorem dL_law_223 : decode code 223 = .ok (.invokevirtual 22, 3) := by decide +kernel
theorem dL_law_226 : decode code 226 = .ok (.pop, 1) := by decide +kernel
theorem dL_law_227 : decode code 227 = .ok (.goto 649, 3) := by decide +kernel
theorem dL_law_230 : decode code 230 = .ok (.aload_n 1, 1) := by decide +kernel
theorem dL_law_231 : decode code 231 = .ok (.aload_n 0, 1) := by decide +kernel
theorem dL_law_232 : decode code 232 = .ok (.iload_n 3, 1) := by decide +kernel
theorem dL_law_233 : decode code 233 = .ok (.iconst 1, 1) := by decide +kernel
theorem dL_law_234 : decode code 234 = .ok (.iadd, 1) := by decide +kernel
theorem dL_law_235 : decode code 235 = .ok (.iaload, 1) := by decide +kernel
theorem dL_law_236 : decode code 236 = .ok (.aload_n 0, 1) := by decide +kernel
theorem dL_law_237 : decode code 237 = .ok (.iload_n 3, 1) := by decide +kernel
theorem dL_law_238 : decode code 238 = .ok (.iconst 2, 1) := by decide +kernel
theorem dL_law_239 : decode code 239 = .ok (.iadd, 1) := by decide +kernel
theorem dL_law_240 : decode code 240 = .ok (.iaload, 1) := by decide +kernel
theorem dL_law_241 : decode code 241 = .ok (.invokevirtual 23, 3) := by decide +kernel
theorem dL_law_244 : decode code 244 = .ok (.pop, 1) := by decide +kernel
theorem dL_law_245 : decode code 245 = .ok (.aload_n 2, 1) := by decide +kernel
theorem dL_law_246 : decode code 246 = .ok (.aload_n 0, 1) := by decide +kernel
theorem dL_law_247 : decode code 247 = .ok (.iload_n 3, 1) := by decide +kernel
theorem dL_law_248 : decode code 248 = .ok (.iconst 1, 1) := by decide +kernel
theorem dL_law_249 : decode code 249 = .ok (.iadd, 1) := by decide +kernel
theorem dL_law_250 : decode code 250 = .ok (.iaload, 1) := by decide +kernel
theorem dL_law_251 : decode code 251 = .ok (.aload_n 0, 1) := by decide +kernel
theorem dL_law_252 : decode code 252 = .ok (.iload_n 3, 1) := by decide +kernel
theorem dL_law_253 : decode code 253 = .ok (.iconst 2, 1) := by decide +kernel
theorem dL_law_254 : decode code 254 = .ok (.iadd, 1) := by decide +kernel
theorem dL_law_255 : decode code 255 = .ok (.iaload, 1) := by decide +kernel
theorem dL_law_256 : decode code 256 = .ok (.invokevirtual 26, 3) := by decide +kernel
theorem dL_law_259 : decode code 259 = .ok (.pop, 1) := by decide +kernel
theorem dL_law_260 : decode code 260 = .ok (.goto 616, 3) := by decide +kernel
theorem dL_law_263 : decode code 263 = .ok (.aload_n 1, 1) := by decide +kernel
theorem dL_law_264 : decode code 264 = .ok (.aload_n 0, 1) := by decide +kernel
theorem dL_law_265 : decode code 265 = .ok (.iload_n 3, 1) := by decide +kernel
theorem dL_law_266 : decode code 266 = .ok (.iconst 1, 1) := by decide +kernel
theorem dL_law_267 : decode code 267 = .ok (.iadd, 1) := by decide +kernel
theorem dL_law_268 : decode code 268 = .ok (.iaload, 1) := by decide +kernel
theorem dL_law_269 : decode code 269 = .ok (.aload_n 0, 1) := by decide +kernel
theorem dL_law_270 : decode code 270 = .ok (.iload_n 3, 1) := by decide +kernel
theorem dL_law_271 : decode code 271 = .ok (.iconst 2, 1) := by decide +kernel
theorem dL_law_272 : decode code 272 = .ok (.iadd, 1) := by decide +kernel
theorem dL_law_273 : decode code 273 = .ok (.iaload, 1) := by decide +kernel
theorem dL_law_274 : decode code 274 = .ok (.invokevirtual 27, 3) := by decide +kernel
theorem dL_law_277 : decode code 277 = .ok (.pop, 1) := by decide +kernel
theorem dL_law_278 : decode code 278 = .ok (.aload_n 2, 1) := by decide +kernel
theorem dL_law_279 : decode code 279 = .ok (.aload_n 0, 1) := by decide +kernel
theorem dL_law_280 : decode code 280 = .ok (.iload_n 3, 1) := by decide +kernel
theorem dL_law_281 : decode code 281 = .ok (.iconst 1, 1) := by decide +kernel
theorem dL_law_282 : decode code 282 = .ok (.iadd, 1) := by decide +kernel
theorem dL_law_283 : decode code 283 = .ok (.iaload, 1) := by decide +kernel
theorem dL_law_284 : decode code 284 = .ok (.aload_n 0, 1) := by decide +kernel
theorem dL_law_285 : decode code 285 = .ok (.iload_n 3, 1) := by decide +kernel
theorem dL_law_286 : decode code 286 = .ok (.iconst 2, 1) := by decide +kernel
theorem dL_law_287 : decode code 287 = .ok (.iadd, 1) := by decide +kernel
theorem dL_law_288 : decode code 288 = .ok (.iaload, 1) := by decide +kernel
theorem dL_law_289 : decode code 289 = .ok (.invokevirtual 31, 3) := by decide +kernel
theorem dL_law_292 : decode code 292 = .ok (.pop, 1) := by decide +kernel
theorem dL_law_293 : decode code 293 = .ok (.goto 583, 3) := by decide +kernel
theorem dL_law_296 : decode code 296 = .ok (.aload_n 1, 1) := by decide +kernel
theorem dL_law_297 : decode code 297 = .ok (.aload_n 0, 1) := by decide +kernel
theorem dL_law_298 : decode code 298 = .ok (.iload_n 3, 1) := by decide +kernel
theorem dL_law_299 : decode code 299 = .ok (.iconst 1, 1) := by decide +kernel
theorem dL_law_300 : decode code 300 = .ok (.iadd, 1) := by decide +kernel
theorem dL_law_301 : decode code 301 = .ok (.iaload, 1) := by decide +kernel
theorem dL_law_302 : decode code 302 = .ok (.invokevirtual 32, 3) := by decide +kernel
theorem dL_law_305 : decode code 305 = .ok (.pop, 1) := by decide +kernel
theorem dL_law_306 : decode code 306 = .ok (.aload_n 2, 1) := by decide +kernel
theorem dL_law_307 : decode code 307 = .ok (.aload_n 0, 1) := by decide +kernel
theorem dL_law_308 : decode code 308 = .ok (.iload_n 3, 1) := by decide +kernel
theorem dL_law_309 : decode code 309 = .ok (.iconst 1, 1) := by decide +kernel
theorem dL_law_310 : decode code 310 = .ok (.iadd, 1) := by decide +kernel
theorem dL_law_311 : decode code 311 = .ok (.iaload, 1) := by decide +kernel
theorem dL_law_312 : decode code 312 = .ok (.invokevirtual 36, 3) := by decide +kernel
theorem dL_law_315 : decode code 315 = .ok (.pop, 1) := by decide +kernel
theorem dL_law_316 : decode code 316 = .ok (.goto 560, 3) := by decide +kernel
theorem dL_law_319 : decode code 319 = .ok (.aload_n 1, 1) := by decide +kernel
theorem dL_law_320 : decode code 320 = .ok (.aload_n 0, 1) := by decide +kernel
theorem dL_law_321 : decode code 321 = .ok (.iload_n 3, 1) := by decide +kernel
theorem dL_law_322 : decode code 322 = .ok (.iconst 1, 1) := by decide +kernel
theorem dL_law_323 : decode code 323 = .ok (.iadd, 1) := by decide +kernel
theorem dL_law_324 : decode code 324 = .ok (.iaload, 1) := by decide +kernel
theorem dL_law_325 : decode code 325 = .ok (.aload_n 0, 1) := by decide +kernel
theorem dL_law_326 : decode code 326 = .ok (.iload_n 3, 1) := by decide +kernel
theorem dL_law_327 : decode code 327 = .ok (.iconst 2, 1) := by decide +kernel
theorem dL_law_328 : decode code 328 = .ok (.iadd, 1) := by decide +kernel
theorem dL_law_329 : decode code 329 = .ok (.iaload, 1) := by decide +kernel
theorem dL_law_330 : decode code 330 = .ok (.invokevirtual 37, 3) := by decide +kernel
theorem dL_law_333 : decode code 333 = .ok (.pop, 1) := by decide +kernel
theorem dL_law_334 : decode code 334 = .ok (.aload_n 2, 1) := by decide +kernel
theorem dL_law_335 : decode code 335 = .ok (.aload_n 0, 1) := by decide +kernel
theorem dL_law_336 : decode code 336 = .ok (.iload_n 3, 1) := by decide +kernel
theorem dL_law_337 : decode code 337 = .ok (.iconst 1, 1) := by decide +kernel
theorem dL_law_338 : decode code 338 = .ok (.iadd, 1) := by decide +kernel
theorem dL_law_339 : decode code 339 = .ok (.iaload, 1) := by decide +kernel
theorem dL_law_340 : decode code 340 = .ok (.aload_n 0, 1) := by decide +kernel
theorem dL_law_341 : decode code 341 = .ok (.iload_n 3, 1) := by decide +kernel
theorem dL_law_342 : decode code 342 = .ok (.iconst 2, 1) := by decide +kernel
theorem dL_law_343 : decode code 343 = .ok (.iadd, 1) := by decide +kernel
theorem dL_law_344 : decode code 344 = .ok (.iaload, 1) := by decide +kernel
theorem dL_law_345 : decode code 345 = .ok (.invokevirtual 40, 3) := by decide +kernel
theorem dL_law_348 : decode code 348 = .ok (.pop, 1) := by decide +kernel
theorem dL_law_349 : decode code 349 = .ok (.goto 527, 3) := by decide +kernel
theorem dL_law_352 : decode code 352 = .ok (.aload_n 1, 1) := by decide +kernel
theorem dL_law_353 : decode code 353 = .ok (.aload_n 0, 1) := by decide +kernel
theorem dL_law_354 : decode code 354 = .ok (.iload_n 3, 1) := by decide +kernel
theorem dL_law_355 : decode code 355 = .ok (.iconst 1, 1) := by decide +kernel
theorem dL_law_356 : decode code 356 = .ok (.iadd, 1) := by decide +kernel
theorem dL_law_357 : decode code 357 = .ok (.iaload, 1) := by decide +kernel
theorem dL_law_358 : decode code 358 = .ok (.aload_n 0, 1) := by decide +kernel
theorem dL_law_359 : decode code 359 = .ok (.iload_n 3, 1) := by decide +kernel
theorem dL_law_360 : decode code 360 = .ok (.iconst 2, 1) := by decide +kernel
theorem dL_law_361 : decode code 361 = .ok (.iadd, 1) := by decide +kernel
theorem dL_law_362 : decode code 362 = .ok (.iaload, 1) := by decide +kernel
theorem dL_law_363 : decode code 363 = .ok (.invokevirtual 41, 3) := by decide +kernel
theorem dL_law_366 : decode code 366 = .ok (.pop, 1) := by decide +kernel
theorem dL_law_367 : decode code 367 = .ok (.aload_n 2, 1) := by decide +kernel
theorem dL_law_368 : decode code 368 = .ok (.aload_n 0, 1) := by decide +kernel
theorem dL_law_369 : decode code 369 = .ok (.iload_n 3, 1) := by decide +kernel
theorem dL_law_370 : decode code 370 = .ok (.iconst 1, 1) := by decide +kernel
theorem dL_law_371 : decode code 371 = .ok (.iadd, 1) := by decide +kernel
theorem dL_law_372 : decode code 372 = .ok (.iaload, 1) := by decide +kernel
theorem dL_law_373 : decode code 373 = .ok (.aload_n 0, 1) := by decide +kernel
theorem dL_law_374 : decode code 374 = .ok (.iload_n 3, 1) := by decide +kernel
theorem dL_law_375 : decode code 375 = .ok (.iconst 2, 1) := by decide +kernel
theorem dL_law_376 : decode code 376 = .ok (.iadd, 1) := by decide +kernel
theorem dL_law_377 : decode code 377 = .ok (.iaload, 1) := by decide +kernel
theorem dL_law_378 : decode code 378 = .ok (.invokevirtual 44, 3) := by decide +kernel
theorem dL_law_381 : decode code 381 = .ok (.pop, 1) := by decide +kernel
theorem dL_law_382 : decode code 382 = .ok (.goto 494, 3) := by decide +kernel
theorem dL_law_385 : decode code 385 = .ok (.aload_n 1, 1) := by decide +kernel
theorem dL_law_386 : decode code 386 = .ok (.aload_n 0, 1) := by decide +kernel
theorem dL_law_387 : decode code 387 = .ok (.iload_n 3, 1) := by decide +kernel
theorem dL_law_388 : decode code 388 = .ok (.iconst 1, 1) := by decide +kernel
theorem dL_law_389 : decode code 389 = .ok (.iadd, 1) := by decide +kernel
theorem dL_law_390 : decode code 390 = .ok (.iaload, 1) := by decide +kernel
theorem dL_law_391 : decode code 391 = .ok (.aload_n 0, 1) := by decide +kernel
theorem dL_law_392 : decode code 392 = .ok (.iload_n 3, 1) := by decide +kernel
theorem dL_law_393 : decode code 393 = .ok (.iconst 2, 1) := by decide +kernel
theorem dL_law_394 : decode code 394 = .ok (.iadd, 1) := by decide +kernel
theorem dL_law_395 : decode code 395 = .ok (.iaload, 1) := by decide +kernel
theorem dL_law_396 : decode code 396 = .ok (.invokevirtual 45, 3) := by decide +kernel
theorem dL_law_399 : decode code 399 = .ok (.pop, 1) := by decide +kernel
theorem dL_law_400 : decode code 400 = .ok (.aload_n 2, 1) := by decide +kernel
theorem dL_law_401 : decode code 401 = .ok (.aload_n 0, 1) := by decide +kernel
theorem dL_law_402 : decode code 402 = .ok (.iload_n 3, 1) := by decide +kernel
theorem dL_law_403 : decode code 403 = .ok (.iconst 1, 1) := by decide +kernel
theorem dL_law_404 : decode code 404 = .ok (.iadd, 1) := by decide +kernel
theorem dL_law_405 : decode code 405 = .ok (.iaload, 1) := by decide +kernel
theorem dL_law_406 : decode code 406 = .ok (.aload_n 0, 1) := by decide +kernel
theorem dL_law_407 : decode code 407 = .ok (.iload_n 3, 1) := by decide +kernel
theorem dL_law_408 : decode code 408 = .ok (.iconst 2, 1) := by decide +kernel
theorem dL_law_409 : decode code 409 = .ok (.iadd, 1) := by decide +kernel
theorem dL_law_410 : decode code 410 = .ok (.iaload, 1) := by decide +kernel
theorem dL_law_411 : decode code 411 = .ok (.invokevirtual 48, 3) := by decide +kernel
theorem dL_law_414 : decode code 414 = .ok (.pop, 1) := by decide +kernel
theorem dL_law_415 : decode code 415 = .ok (.goto 461, 3) := by decide +kernel
theorem dL_law_418 : decode code 418 = .ok (.aload_n 1, 1) := by decide +kernel
theorem dL_law_419 : decode code 419 = .ok (.aload_n 0, 1) := by decide +kernel
theorem dL_law_420 : decode code 420 = .ok (.iload_n 3, 1) := by decide +kernel
theorem dL_law_421 : decode code 421 = .ok (.iconst 1, 1) := by decide +kernel
theorem dL_law_422 : decode code 422 = .ok (.iadd, 1) := by decide +kernel
theorem dL_law_423 : decode code 423 = .ok (.iaload, 1) := by decide +kernel
theorem dL_law_424 : decode code 424 = .ok (.aload_n 0, 1) := by decide +kernel
theorem dL_law_425 : decode code 425 = .ok (.iload_n 3, 1) := by decide +kernel
theorem dL_law_426 : decode code 426 = .ok (.iconst 2, 1) := by decide +kernel
theorem dL_law_427 : decode code 427 = .ok (.iadd, 1) := by decide +kernel
theorem dL_law_428 : decode code 428 = .ok (.iaload, 1) := by decide +kernel
theorem dL_law_429 : decode code 429 = .ok (.invokevirtual 49, 3) := by decide +kernel
theorem dL_law_432 : decode code 432 = .ok (.pop, 1) := by decide +kernel
theorem dL_law_433 : decode code 433 = .ok (.aload_n 2, 1) := by decide +kernel
theorem dL_law_434 : decode code 434 = .ok (.aload_n 0, 1) := by decide +kernel
theorem dL_law_435 : decode code 435 = .ok (.iload_n 3, 1) := by decide +kernel
theorem dL_law_436 : decode code 436 = .ok (.iconst 1, 1) := by decide +kernel
theorem dL_law_437 : decode code 437 = .ok (.iadd, 1) := by decide +kernel
theorem dL_law_438 : decode code 438 = .ok (.iaload, 1) := by decide +kernel
theorem dL_law_439 : decode code 439 = .ok (.aload_n 0, 1) := by decide +kernel
theorem dL_law_440 : decode code 440 = .ok (.iload_n 3, 1) := by decide +kernel
theorem dL_law_441 : decode code 441 = .ok (.iconst 2, 1) := by decide +kernel
theorem dL_law_442 : decode code 442 = .ok (.iadd, 1) := by decide +kernel
theorem dL_law_443 : decode code 443 = .ok (.iaload, 1) := by decide +kernel
theorem dL_law_444 : decode code 444 = .ok (.invokevirtual 52, 3) := by decide +kernel
theorem dL_law_447 : decode code 447 = .ok (.pop, 1) := by decide +kernel
theorem dL_law_448 : decode code 448 = .ok (.goto 428, 3) := by decide +kernel
theorem dL_law_451 : decode code 451 = .ok (.aload_n 1, 1) := by decide +kernel
theorem dL_law_452 : decode code 452 = .ok (.invokevirtual 53, 3) := by decide +kernel
theorem dL_law_455 : decode code 455 = .ok (.pop, 1) := by decide +kernel
theorem dL_law_456 : decode code 456 = .ok (.aload_n 2, 1) := by decide +kernel
theorem dL_law_457 : decode code 457 = .ok (.invokevirtual 57, 3) := by decide +kernel
theorem dL_law_460 : decode code 460 = .ok (.pop, 1) := by decide +kernel
theorem dL_law_461 : decode code 461 = .ok (.goto 415, 3) := by decide +kernel
theorem dL_law_464 : decode code 464 = .ok (.aload_n 1, 1) := by decide +kernel
theorem dL_law_465 : decode code 465 = .ok (.aload_n 0, 1) := by decide +kernel
theorem dL_law_466 : decode code 466 = .ok (.iload_n 3, 1) := by decide +kernel
theorem dL_law_467 : decode code 467 = .ok (.iconst 1, 1) := by decide +kernel
theorem dL_law_468 : decode code 468 = .ok (.iadd, 1) := by decide +kernel
theorem dL_law_469 : decode code 469 = .ok (.iaload, 1) := by decide +kernel
theorem dL_law_470 : decode code 470 = .ok (.aload_n 0, 1) := by decide +kernel
theorem dL_law_471 : decode code 471 = .ok (.iload_n 3, 1) := by decide +kernel
theorem dL_law_472 : decode code 472 = .ok (.iconst 2, 1) := by decide +kernel
theorem dL_law_473 : decode code 473 = .ok (.iadd, 1) := by decide +kernel
theorem dL_law_474 : decode code 474 = .ok (.iaload, 1) := by decide +kernel
theorem dL_law_475 : decode code 475 = .ok (.aload_n 0, 1) := by decide +kernel
theorem dL_law_476 : decode code 476 = .ok (.iload_n 3, 1) := by decide +kernel
theorem dL_law_477 : decode code 477 = .ok (.iconst 3, 1) := by decide +kernel
theorem dL_law_478 : decode code 478 = .ok (.iadd, 1) := by decide +kernel
theorem dL_law_479 : decode code 479 = .ok (.iaload, 1) := by decide +kernel
theorem dL_law_480 : decode code 480 = .ok (.invokevirtual 58, 3) := by decide +kernel
theorem dL_law_483 : decode code 483 = .ok (.pop, 1) := by decide +kernel
theorem dL_law_484 : decode code 484 = .ok (.aload_n 2, 1) := by decide +kernel
theorem dL_law_485 : decode code 485 = .ok (.aload_n 0, 1) := by decide +kernel
theorem dL_law_486 : decode code 486 = .ok (.iload_n 3, 1) := by decide +kernel
theorem dL_law_487 : decode code 487 = .ok (.iconst 1, 1) := by decide +kernel
theorem dL_law_488 : decode code 488 = .ok (.iadd, 1) := by decide +kernel
theorem dL_law_489 : decode code 489 = .ok (.iaload, 1) := by decide +kernel
theorem dL_law_490 : decode code 490 = .ok (.aload_n 0, 1) := by decide +kernel
theorem dL_law_491 : decode code 491 = .ok (.iload_n 3, 1) := by decide +kernel
theorem dL_law_492 : decode code 492 = .ok (.iconst 2, 1) := by decide +kernel
theorem dL_law_493 : decode code 493 = .ok (.iadd, 1) := by decide +kernel
theorem dL_law_494 : decode code 494 = .ok (.iaload, 1) := by decide +kernel
theorem dL_law_495 : decode code 495 = .ok (.aload_n 0, 1) := by decide +kernel
theorem dL_law_496 : decode code 496 = .ok (.iload_n 3, 1) := by decide +kernel
theorem dL_law_497 : decode code 497 = .ok (.iconst 3, 1) := by decide +kernel
theorem dL_law_498 : decode code 498 = .ok (.iadd, 1) := by decide +kernel
theorem dL_law_499 : decode code 499 = .ok (.iaload, 1) := by decide +kernel
theorem dL_law_500 : decode code 500 = .ok (.invokevirtual 62, 3) := by decide +kernel
theorem dL_law_503 : decode code 503 = .ok (.pop, 1) := by decide +kernel
theorem dL_law_504 : decode code 504 = .ok (.goto 372, 3) := by decide +kernel
theorem dL_law_507 : decode code 507 = .ok (.aload_n 1, 1) := by decide +kernel
theorem dL_law_508 : decode code 508 = .ok (.aload_n 0, 1) := by decide +kernel
theorem dL_law_509 : decode code 509 = .ok (.iload_n 3, 1) := by decide +kernel
theorem dL_law_510 : decode code 510 = .ok (.iconst 1, 1) := by decide +kernel
theorem dL_law_511 : decode code 511 = .ok (.iadd, 1) := by decide +kernel
theorem dL_law_512 : decode code 512 = .ok (.iaload, 1) := by decide +kernel
theorem dL_law_513 : decode code 513 = .ok (.invokevirtual 63, 3) := by decide +kernel
theorem dL_law_516 : decode code 516 = .ok (.pop, 1) := by decide +kernel
theorem dL_law_517 : decode code 517 = .ok (.aload_n 2, 1) := by decide +kernel
theorem dL_law_518 : decode code 518 = .ok (.aload_n 0, 1) := by decide +kernel
theorem dL_law_519 : decode code 519 = .ok (.iload_n 3, 1) := by decide +kernel
theorem dL_law_520 : decode code 520 = .ok (.iconst 1, 1) := by decide +kernel
theorem dL_law_521 : decode code 521 = .ok (.iadd, 1) := by decide +kernel
theorem dL_law_522 : decode code 522 = .ok (.iaload, 1) := by decide +kernel
theorem dL_law_523 : decode code 523 = .ok (.invokevirtual 67, 3) := by decide +kernel
theorem dL_law_526 : decode code 526 = .ok (.pop, 1) := by decide +kernel
theorem dL_law_527 : decode code 527 = .ok (.goto 349, 3) := by decide +kernel
theorem dL_law_530 : decode code 530 = .ok (.aload_n 1, 1) := by decide +kernel
theorem dL_law_531 : decode code 531 = .ok (.invokevirtual 68, 3) := by decide +kernel
theorem dL_law_534 : decode code 534 = .ok (.pop, 1) := by decide +kernel
theorem dL_law_535 : decode code 535 = .ok (.aload_n 2, 1) := by decide +kernel
theorem dL_law_536 : decode code 536 = .ok (.invokevirtual 71, 3) := by decide +kernel
theorem dL_law_539 : decode code 539 = .ok (.pop, 1) := by decide +kernel
theorem dL_law_540 : decode code 540 = .ok (.goto 336, 3) := by decide +kernel
theorem dL_law_543 : decode code 543 = .ok (.aload_n 1, 1) := by decide +kernel
theorem dL_law_544 : decode code 544 = .ok (.aload_n 0, 1) := by decide +kernel
theorem dL_law_545 : decode code 545 = .ok (.iload_n 3, 1) := by decide +kernel
theorem dL_law_546 : decode code 546 = .ok (.iconst 1, 1) := by decide +kernel
theorem dL_law_547 : decode code 547 = .ok (.iadd, 1) := by decide +kernel
theorem dL_law_548 : decode code 548 = .ok (.iaload, 1) := by decide +kernel
theorem dL_law_549 : decode code 549 = .ok (.invokevirtual 72, 3) := by decide +kernel
theorem dL_law_552 : decode code 552 = .ok (.pop, 1) := by decide +kernel
theorem dL_law_553 : decode code 553 = .ok (.aload_n 2, 1) := by decide +kernel
theorem dL_law_554 : decode code 554 = .ok (.aload_n 0, 1) := by decide +kernel
theorem dL_law_555 : decode code 555 = .ok (.iload_n 3, 1) := by decide +kernel
theorem dL_law_556 : decode code 556 = .ok (.iconst 1, 1) := by decide +kernel
theorem dL_law_557 : decode code 557 = .ok (.iadd, 1) := by decide +kernel
theorem dL_law_558 : decode code 558 = .ok (.iaload, 1) := by decide +kernel
theorem dL_law_559 : decode code 559 = .ok (.invokevirtual 75, 3) := by decide +kernel
theorem dL_law_562 : decode code 562 = .ok (.pop, 1) := by decide +kernel
theorem dL_law_563 : decode code 563 = .ok (.goto 313, 3) := by decide +kernel
theorem dL_law_566 : decode code 566 = .ok (.aload_n 1, 1) := by decide +kernel
theorem dL_law_567 : decode code 567 = .ok (.aload_n 0, 1) := by decide +kernel
theorem dL_law_568 : decode code 568 = .ok (.iload_n 3, 1) := by decide +kernel
theorem dL_law_569 : decode code 569 = .ok (.iconst 1, 1) := by decide +kernel
theorem dL_law_570 : decode code 570 = .ok (.iadd, 1) := by decide +kernel
theorem dL_law_571 : decode code 571 = .ok (.iaload, 1) := by decide +kernel
theorem dL_law_572 : decode code 572 = .ok (.invokevirtual 76, 3) := by decide +kernel
theorem dL_law_575 : decode code 575 = .ok (.pop, 1) := by decide +kernel
theorem dL_law_576 : decode code 576 = .ok (.aload_n 2, 1) := by decide +kernel
theorem dL_law_577 : decode code 577 = .ok (.aload_n 0, 1) := by decide +kernel
theorem dL_law_578 : decode code 578 = .ok (.iload_n 3, 1) := by decide +kernel
theorem dL_law_579 : decode code 579 = .ok (.iconst 1, 1) := by decide +kernel
theorem dL_law_580 : decode code 580 = .ok (.iadd, 1) := by decide +kernel
theorem dL_law_581 : decode code 581 = .ok (.iaload, 1) := by decide +kernel
theorem dL_law_582 : decode code 582 = .ok (.invokevirtual 79, 3) := by decide +kernel
theorem dL_law_585 : decode code 585 = .ok (.pop, 1) := by decide +kernel
theorem dL_law_586 : decode code 586 = .ok (.goto 290, 3) := by decide +kernel
theorem dL_law_589 : decode code 589 = .ok (.aload_n 1, 1) := by decide +kernel
theorem dL_law_590 : decode code 590 = .ok (.aload_n 0, 1) := by decide +kernel
theorem dL_law_591 : decode code 591 = .ok (.iload_n 3, 1) := by decide +kernel
theorem dL_law_592 : decode code 592 = .ok (.iconst 1, 1) := by decide +kernel
theorem dL_law_593 : decode code 593 = .ok (.iadd, 1) := by decide +kernel
theorem dL_law_594 : decode code 594 = .ok (.iaload, 1) := by decide +kernel
theorem dL_law_595 : decode code 595 = .ok (.invokevirtual 80, 3) := by decide +kernel
theorem dL_law_598 : decode code 598 = .ok (.pop, 1) := by decide +kernel
theorem dL_law_599 : decode code 599 = .ok (.aload_n 2, 1) := by decide +kernel
theorem dL_law_600 : decode code 600 = .ok (.aload_n 0, 1) := by decide +kernel
theorem dL_law_601 : decode code 601 = .ok (.iload_n 3, 1) := by decide +kernel
theorem dL_law_602 : decode code 602 = .ok (.iconst 1, 1) := by decide +kernel
theorem dL_law_603 : decode code 603 = .ok (.iadd, 1) := by decide +kernel
theorem dL_law_604 : decode code 604 = .ok (.iaload, 1) := by decide +kernel
theorem dL_law_605 : decode code 605 = .ok (.invokevirtual 83, 3) := by decide +kernel
theorem dL_law_608 : decode code 608 = .ok (.pop, 1) := by decide +kernel
theorem dL_law_609 : decode code 609 = .ok (.goto 267, 3) := by decide +kernel
theorem dL_law_612 : decode code 612 = .ok (.aload_n 1, 1) := by decide +kernel
theorem dL_law_613 : decode code 613 = .ok (.aload_n 0, 1) := by decide +kernel
theorem dL_law_614 : decode code 614 = .ok (.iload_n 3, 1) := by decide +kernel
theorem dL_law_615 : decode code 615 = .ok (.iconst 1, 1) := by decide +kernel
theorem dL_law_616 : decode code 616 = .ok (.iadd, 1) := by decide +kernel
theorem dL_law_617 : decode code 617 = .ok (.iaload, 1) := by decide +kernel
theorem dL_law_618 : decode code 618 = .ok (.aload_n 0, 1) := by decide +kernel
theorem dL_law_619 : decode code 619 = .ok (.iload_n 3, 1) := by decide +kernel
theorem dL_law_620 : decode code 620 = .ok (.iconst 2, 1) := by decide +kernel
theorem dL_law_621 : decode code 621 = .ok (.iadd, 1) := by decide +kernel
theorem dL_law_622 : decode code 622 = .ok (.iaload, 1) := by decide +kernel
theorem dL_law_623 : decode code 623 = .ok (.aload_n 0, 1) := by decide +kernel
theorem dL_law_624 : decode code 624 = .ok (.iload_n 3, 1) := by decide +kernel
theorem dL_law_625 : decode code 625 = .ok (.iconst 3, 1) := by decide +kernel
theorem dL_law_626 : decode code 626 = .ok (.iadd, 1) := by decide +kernel
theorem dL_law_627 : decode code 627 = .ok (.iaload, 1) := by decide +kernel
theorem dL_law_628 : decode code 628 = .ok (.invokevirtual 84, 3) := by decide +kernel
theorem dL_law_631 : decode code 631 = .ok (.pop, 1) := by decide +kernel
theorem dL_law_632 : decode code 632 = .ok (.aload_n 2, 1) := by decide +kernel
theorem dL_law_633 : decode code 633 = .ok (.aload_n 0, 1) := by decide +kernel
theorem dL_law_634 : decode code 634 = .ok (.iload_n 3, 1) := by decide +kernel
theorem dL_law_635 : decode code 635 = .ok (.iconst 1, 1) := by decide +kernel
theorem dL_law_636 : decode code 636 = .ok (.iadd, 1) := by decide +kernel
theorem dL_law_637 : decode code 637 = .ok (.iaload, 1) := by decide +kernel
theorem dL_law_638 : decode code 638 = .ok (.aload_n 0, 1) := by decide +kernel
theorem dL_law_639 : decode code 639 = .ok (.iload_n 3, 1) := by decide +kernel
theorem dL_law_640 : decode code 640 = .ok (.iconst 2, 1) := by decide +kernel
theorem dL_law_641 : decode code 641 = .ok (.iadd, 1) := by decide +kernel
theorem dL_law_642 : decode code 642 = .ok (.iaload, 1) := by decide +kernel
theorem dL_law_643 : decode code 643 = .ok (.aload_n 0, 1) := by decide +kernel
theorem dL_law_644 : decode code 644 = .ok (.iload_n 3, 1) := by decide +kernel
theorem dL_law_645 : decode code 645 = .ok (.iconst 3, 1) := by decide +kernel
theorem dL_law_646 : decode code 646 = .ok (.iadd, 1) := by decide +kernel
theorem dL_law_647 : decode code 647 = .ok (.iaload, 1) := by decide +kernel
theorem dL_law_648 : decode code 648 = .ok (.invokevirtual 88, 3) := by decide +kernel
theorem dL_law_651 : decode code 651 = .ok (.pop, 1) := by decide +kernel
theorem dL_law_652 : decode code 652 = .ok (.goto 224, 3) := by decide +kernel
theorem dL_law_655 : decode code 655 = .ok (.aload_n 1, 1) := by decide +kernel
theorem dL_law_656 : decode code 656 = .ok (.aload_n 0, 1) := by decide +kernel
theorem dL_law_657 : decode code 657 = .ok (.iload_n 3, 1) := by decide +kernel
theorem dL_law_658 : decode code 658 = .ok (.iconst 1, 1) := by decide +kernel
theorem dL_law_659 : decode code 659 = .ok (.iadd, 1) := by decide +kernel
theorem dL_law_660 : decode code 660 = .ok (.iaload, 1) := by decide +kernel
theorem dL_law_661 : decode code 661 = .ok (.aload_n 0, 1) := by decide +kernel
theorem dL_law_662 : decode code 662 = .ok (.iload_n 3, 1) := by decide +kernel
theorem dL_law_663 : decode code 663 = .ok (.iconst 2, 1) := by decide +kernel
theorem dL_law_664 : decode code 664 = .ok (.iadd, 1) := by decide +kernel
theorem dL_law_665 : decode code 665 = .ok (.iaload, 1) := by decide +kernel
theorem dL_law_666 : decode code 666 = .ok (.invokevirtual 89, 3) := by decide +kernel
theorem dL_law_669 : decode code 669 = .ok (.pop, 1) := by decide +kernel
theorem dL_law_670 : decode code 670 = .ok (.aload_n 2, 1) := by decide +kernel
theorem dL_law_671 : decode code 671 = .ok (.aload_n 0, 1) := by decide +kernel
theorem dL_law_672 : decode code 672 = .ok (.iload_n 3, 1) := by decide +kernel
theorem dL_law_673 : decode code 673 = .ok (.iconst 1, 1) := by decide +kernel
theorem dL_law_674 : decode code 674 = .ok (.iadd, 1) := by decide +kernel
theorem dL_law_675 : decode code 675 = .ok (.iaload, 1) := by decide +kernel
theorem dL_law_676 : decode code 676 = .ok (.aload_n 0, 1) := by decide +kernel
theorem dL_law_677 : decode code 677 = .ok (.iload_n 3, 1) := by decide +kernel
theorem dL_law_678 : decode code 678 = .ok (.iconst 2, 1) := by decide +kernel
theorem dL_law_679 : decode code 679 = .ok (.iadd, 1) := by decide +kernel
theorem dL_law_680 : decode code 680 = .ok (.iaload, 1) := by decide +kernel
theorem dL_law_681 : decode code 681 = .ok (.invokevirtual 92, 3) := by decide +kernel
theorem dL_law_684 : decode code 684 = .ok (.pop, 1) := by decide +kernel
theorem dL_law_685 : decode code 685 = .ok (.goto 191, 3) := by decide +kernel
theorem dL_law_688 : decode code 688 = .ok (.aload_n 1, 1) := by decide +kernel
theorem dL_law_689 : decode code 689 = .ok (.aload_n 0, 1) := by decide +kernel
theorem dL_law_690 : decode code 690 = .ok (.iload_n 3, 1) := by decide +kernel
theorem dL_law_691 : decode code 691 = .ok (.iconst 1, 1) := by decide +kernel
theorem dL_law_692 : decode code 692 = .ok (.iadd, 1) := by decide +kernel
theorem dL_law_693 : decode code 693 = .ok (.iaload, 1) := by decide +kernel
theorem dL_law_694 : decode code 694 = .ok (.aload_n 0, 1) := by decide +kernel
theorem dL_law_695 : decode code 695 = .ok (.iload_n 3, 1) := by decide +kernel
theorem dL_law_696 : decode code 696 = .ok (.iconst 2, 1) := by decide +kernel
theorem dL_law_697 : decode code 697 = .ok (.iadd, 1) := by decide +kernel
theorem dL_law_698 : decode code 698 = .ok (.iaload, 1) := by decide +kernel
theorem dL_law_699 : decode code 699 = .ok (.invokevirtual 93, 3) := by decide +kernel
theorem dL_law_702 : decode code 702 = .ok (.pop, 1) := by decide +kernel
theorem dL_law_703 : decode code 703 = .ok (.aload_n 2, 1) := by decide +kernel
theorem dL_law_704 : decode code 704 = .ok (.aload_n 0, 1) := by decide +kernel
theorem dL_law_705 : decode code 705 = .ok (.iload_n 3, 1) := by decide +kernel
theorem dL_law_706 : decode code 706 = .ok (.iconst 1, 1) := by decide +kernel
theorem dL_law_707 : decode code 707 = .ok (.iadd, 1) := by decide +kernel
theorem dL_law_708 : decode code 708 = .ok (.iaload, 1) := by decide +kernel
theorem dL_law_709 : decode code 709 = .ok (.aload_n 0, 1) := by decide +kernel
theorem dL_law_710 : decode code 710 = .ok (.iload_n 3, 1) := by decide +kernel
theorem dL_law_711 : decode code 711 = .ok (.iconst 2, 1) := by decide +kernel
theorem dL_law_712 : decode code 712 = .ok (.iadd, 1) := by decide +kernel
theorem dL_law_713 : decode code 713 = .ok (.iaload, 1) := by decide +kernel
theorem dL_law_714 : decode code 714 = .ok (.invokevirtual 96, 3) := by decide +kernel
theorem dL_law_717 : decode code 717 = .ok (.pop, 1) := by decide +kernel
theorem dL_law_718 : decode code 718 = .ok (.goto 158, 3) := by decide +kernel
theorem dL_law_721 : decode code 721 = .ok (.aload_n 1, 1) := by decide +kernel
theorem dL_law_722 : decode code 722 = .ok (.aload_n 0, 1) := by decide +kernel
theorem dL_law_723 : decode code 723 = .ok (.iload_n 3, 1) := by decide +kernel
theorem dL_law_724 : decode code 724 = .ok (.iconst 1, 1) := by decide +kernel
theorem dL_law_725 : decode code 725 = .ok (.iadd, 1) := by decide +kernel
theorem dL_law_726 : decode code 726 = .ok (.iaload, 1) := by decide +kernel
theorem dL_law_727 : decode code 727 = .ok (.aload_n 0, 1) := by decide +kernel
theorem dL_law_728 : decode code 728 = .ok (.iload_n 3, 1) := by decide +kernel
theorem dL_law_729 : decode code 729 = .ok (.iconst 2, 1) := by decide +kernel
theorem dL_law_730 : decode code 730 = .ok (.iadd, 1) := by decide +kernel
theorem dL_law_731 : decode code 731 = .ok (.iaload, 1) := by decide +kernel
theorem dL_law_732 : decode code 732 = .ok (.invokevirtual 97, 3) := by decide +kernel
theorem dL_law_735 : decode code 735 = .ok (.pop, 1) := by decide +kernel
theorem dL_law_736 : decode code 736 = .ok (.aload_n 2, 1) := by decide +kernel
theorem dL_law_737 : decode code 737 = .ok (.aload_n 0, 1) := by decide +kernel
theorem dL_law_738 : decode code 738 = .ok (.iload_n 3, 1) := by decide +kernel
theorem dL_law_739 : decode code 739 = .ok (.iconst 1, 1) := by decide +kernel
theorem dL_law_740 : decode code 740 = .ok (.iadd, 1) := by decide +kernel
theorem dL_law_741 : decode code 741 = .ok (.iaload, 1) := by decide +kernel
theorem dL_law_742 : decode code 742 = .ok (.aload_n 0, 1) := by decide +kernel
theorem dL_law_743 : decode code 743 = .ok (.iload_n 3, 1) := by decide +kernel
theorem dL_law_744 : decode code 744 = .ok (.iconst 2, 1) := by decide +kernel
theorem dL_law_745 : decode code 745 = .ok (.iadd, 1) := by decide +kernel
theorem dL_law_746 : decode code 746 = .ok (.iaload, 1) := by decide +kernel
theorem dL_law_747 : decode code 747 = .ok (.invokevirtual 100, 3) := by decide +kernel
theorem dL_law_750 : decode code 750 = .ok (.pop, 1) := by decide +kernel
theorem dL_law_751 : decode code 751 = .ok (.goto 125, 3) := by decide +kernel
theorem dL_law_754 : decode code 754 = .ok (.aload_n 1, 1) := by decide +kernel
theorem dL_law_755 : decode code 755 = .ok (.aload_n 0, 1) := by decide +kernel
theorem dL_law_756 : decode code 756 = .ok (.iload_n 3, 1) := by decide +kernel
theorem dL_law_757 : decode code 757 = .ok (.iconst 1, 1) := by decide +kernel
theorem dL_law_758 : decode code 758 = .ok (.iadd, 1) := by decide +kernel
theorem dL_law_759 : decode code 759 = .ok (.iaload, 1) := by decide +kernel
theorem dL_law_760 : decode code 760 = .ok (.aload_n 0, 1) := by decide +kernel
theorem dL_law_761 : decode code 761 = .ok (.iload_n 3, 1) := by decide +kernel
theorem dL_law_762 : decode code 762 = .ok (.iconst 2, 1) := by decide +kernel
theorem dL_law_763 : decode code 763 = .ok (.iadd, 1) := by decide +kernel
theorem dL_law_764 : decode code 764 = .ok (.iaload, 1) := by decide +kernel
theorem dL_law_765 : decode code 765 = .ok (.aload_n 0, 1) := by decide +kernel
theorem dL_law_766 : decode code 766 = .ok (.iload_n 3, 1) := by decide +kernel
theorem dL_law_767 : decode code 767 = .ok (.iconst 3, 1) := by decide +kernel
theorem dL_law_768 : decode code 768 = .ok (.iadd, 1) := by decide +kernel
theorem dL_law_769 : decode code 769 = .ok (.iaload, 1) := by decide +kernel
theorem dL_law_770 : decode code 770 = .ok (.aload_n 0, 1) := by decide +kernel
theorem dL_law_771 : decode code 771 = .ok (.iload_n 3, 1) := by decide +kernel
theorem dL_law_772 : decode code 772 = .ok (.iconst 4, 1) := by decide +kernel
theorem dL_law_773 : decode code 773 = .ok (.iadd, 1) := by decide +kernel
theorem dL_law_774 : decode code 774 = .ok (.iaload, 1) := by decide +kernel
theorem dL_law_775 : decode code 775 = .ok (.aload_n 0, 1) := by decide +kernel
theorem dL_law_776 : decode code 776 = .ok (.iload_n 3, 1) := by decide +kernel
theorem dL_law_777 : decode code 777 = .ok (.iconst 5, 1) := by decide +kernel
theorem dL_law_778 : decode code 778 = .ok (.iadd, 1) := by decide +kernel
theorem dL_law_779 : decode code 779 = .ok (.iaload, 1) := by decide +kernel
theorem dL_law_780 : decode code 780 = .ok (.invokevirtual 101, 3) := by decide +kernel
theorem dL_law_783 : decode code 783 = .ok (.pop, 1) := by decide +kernel
theorem dL_law_784 : decode code 784 = .ok (.aload_n 2, 1) := by decide +kernel
theorem dL_law_785 : decode code 785 = .ok (.aload_n 0, 1) := by decide +kernel
theorem dL_law_786 : decode code 786 = .ok (.iload_n 3, 1) := by decide +kernel
theorem dL_law_787 : decode code 787 = .ok (.iconst 1, 1) := by decide +kernel
theorem dL_law_788 : decode code 788 = .ok (.iadd, 1) := by decide +kernel
theorem dL_law_789 : decode code 789 = .ok (.iaload, 1) := by decide +kernel
theorem dL_law_790 : decode code 790 = .ok (.aload_n 0, 1) := by decide +kernel
theorem dL_law_791 : decode code 791 = .ok (.iload_n 3, 1) := by decide +kernel
theorem dL_law_792 : decode code 792 = .ok (.iconst 2, 1) := by decide +kernel
theorem dL_law_793 : decode code 793 = .ok (.iadd, 1) := by decide +kernel
theorem dL_law_794 : decode code 794 = .ok (.iaload, 1) := by decide +kernel
theorem dL_law_795 : decode code 795 = .ok (.aload_n 0, 1) := by decide +kernel
theorem dL_law_796 : decode code 796 = .ok (.iload_n 3, 1) := by decide +kernel
theorem dL_law_797 : decode code 797 = .ok (.iconst 3, 1) := by decide +kernel
theorem dL_law_798 : decode code 798 = .ok (.iadd, 1) := by decide +kernel
theorem dL_law_799 : decode code 799 = .ok (.iaload, 1) := by decide +kernel
theorem dL_law_800 : decode code 800 = .ok (.aload_n 0, 1) := by decide +kernel
theorem dL_law_801 : decode code 801 = .ok (.iload_n 3, 1) := by decide +kernel
theorem dL_law_802 : decode code 802 = .ok (.iconst 4, 1) := by decide +kernel
theorem dL_law_803 : decode code 803 = .ok (.iadd, 1) := by decide +kernel
theorem dL_law_804 : decode code 804 = .ok (.iaload, 1) := by decide +kernel
theorem dL_law_805 : decode code 805 = .ok (.aload_n 0, 1) := by decide +kernel
theorem dL_law_806 : decode code 806 = .ok (.iload_n 3, 1) := by decide +kernel
theorem dL_law_807 : decode code 807 = .ok (.iconst 5, 1) := by decide +kernel
theorem dL_law_808 : decode code 808 = .ok (.iadd, 1) := by decide +kernel
theorem dL_law_809 : decode code 809 = .ok (.iaload, 1) := by decide +kernel
theorem dL_law_810 : decode code 810 = .ok (.invokevirtual 105, 3) := by decide +kernel
theorem dL_law_813 : decode code 813 = .ok (.pop, 1) := by decide +kernel
theorem dL_law_814 : decode code 814 = .ok (.goto 62, 3) := by decide +kernel
theorem dL_law_817 : decode code 817 = .ok (.aload_n 1, 1) := by decide +kernel
theorem dL_law_818 : decode code 818 = .ok (.aload_n 0, 1) := by decide +kernel
theorem dL_law_819 : decode code 819 = .ok (.iload_n 3, 1) := by decide +kernel
theorem dL_law_820 : decode code 820 = .ok (.iconst 1, 1) := by decide +kernel
theorem dL_law_821 : decode code 821 = .ok (.iadd, 1) := by decide +kernel
theorem dL_law_822 : decode code 822 = .ok (.iaload, 1) := by decide +kernel
theorem dL_law_823 : decode code 823 = .ok (.invokevirtual 106, 3) := by decide +kernel
theorem dL_law_826 : decode code 826 = .ok (.pop, 1) := by decide +kernel
theorem dL_law_827 : decode code 827 = .ok (.aload_n 2, 1) := by decide +kernel
theorem dL_law_828 : decode code 828 = .ok (.aload_n 0, 1) := by decide +kernel
theorem dL_law_829 : decode code 829 = .ok (.iload_n 3, 1) := by decide +kernel
theorem dL_law_830 : decode code 830 = .ok (.iconst 1, 1) := by decide +kernel
theorem dL_law_831 : decode code 831 = .ok (.iadd, 1) := by decide +kernel
theorem dL_law_832 : decode code 832 = .ok (.iaload, 1) := by decide +kernel
theorem dL_law_833 : decode code 833 = .ok (.invokevirtual 109, 3) := by decide +kernel
theorem dL_law_836 : decode code 836 = .ok (.pop, 1) := by decide +kernel
theorem dL_law_837 : decode code 837 = .ok (.goto 39, 3) := by decide +kernel
theorem dL_law_840 : decode code 840 = .ok (.aload_n 1, 1) := by decide +kernel
theorem dL_law_841 : decode code 841 = .ok (.invokevirtual 110, 3) := by decide +kernel
theorem dL_law_844 : decode code 844 = .ok (.aload_n 2, 1) := by decide +kernel
theorem dL_law_845 : decode code 845 = .ok (.invokevirtual 113, 3) := by decide +kernel
theorem dL_law_848 : decode code 848 = .ok (.if_icmp .eq 28, 3) := by decide +kernel
theorem dL_law_851 : decode code 851 = .ok (.iconst 0, 1) := by decide +kernel
theorem dL_law_852 : decode code 852 = .ok (.ireturn, 1) := by decide +kernel
theorem dL_law_853 : decode code 853 = .ok (.aload_n 1, 1) := by decide +kernel
theorem dL_law_854 : decode code 854 = .ok (.aload_n 0, 1) := by decide +kernel
theorem dL_law_855 : decode code 855 = .ok (.iload_n 3, 1) := by decide +kernel
theorem dL_law_856 : decode code 856 = .ok (.iconst 1, 1) := by decide +kernel
theorem dL_law_857 : decode code 857 = .ok (.iadd, 1) := by decide +kernel
theorem dL_law_858 : decode code 858 = .ok (.iaload, 1) := by decide +kernel
theorem dL_law_859 : decode code 859 = .ok (.invokevirtual 114, 3) := by decide +kernel
theorem dL_law_862 : decode code 862 = .ok (.pop, 1) := by decide +kernel
theorem dL_law_863 : decode code 863 = .ok (.aload_n 2, 1) := by decide +kernel
theorem dL_law_864 : decode code 864 = .ok (.aload_n 0, 1) := by decide +kernel
theorem dL_law_865 : decode code 865 = .ok (.iload_n 3, 1) := by decide +kernel
theorem dL_law_866 : decode code 866 = .ok (.iconst 1, 1) := by decide +kernel
theorem dL_law_867 : decode code 867 = .ok (.iadd, 1) := by decide +kernel
theorem dL_law_868 : decode code 868 = .ok (.iaload, 1) := by decide +kernel
theorem dL_law_869 : decode code 869 = .ok (.invokevirtual 117, 3) := by decide +kernel
theorem dL_law_872 : decode code 872 = .ok (.pop, 1) := by decide +kernel
theorem dL_law_873 : decode code 873 = .ok (.goto 3, 3) := by decide +kernel
theorem dL_law_876 : decode code 876 = .ok (.iinc 3 6, 3) := by decide +kernel
theorem dL_law_879 : decode code 879 = .ok (.goto (-861), 3) := by decide +kernel
theorem dL_law_882 : decode code 882 = .ok (.iconst 1, 1) := by decide +kernel
theorem dL_law_883 : decode code 883 = .ok (.ireturn, 1) := by decide +kernel
theorem knows {s : State} {args : Array Value} (htb : ∀ w ∈ bg, w.before args s = true) : ∃ (dC : Nat → ClassId) (dI : Nat → Nat → Nat), ∀ (k : Nat) (q : vw_C), vwCl[k]? = some q → u_Kn s q.1 q.2.1 q.2.2 (dC k) (dI k) := by
  obtain ⟨c0, i0, h0⟩ := u_known (C := RX0) (T := TX0) (N := 7) (n := 7) htb iX0 (htb _ m_183)
  obtain ⟨c1, i1, h1⟩ := u_known (C := RX1) (T := TX1) (N := 3) (n := 3) htb iX1 (htb _ m_214)
  obtain ⟨c2, i2, h2⟩ := u_known (C := RX2) (T := TX2) (N := 8) (n := 8) htb iX2 (htb _ m_66)
  obtain ⟨c3, i3, h3⟩ := u_known (C := RX3) (T := TX3) (N := 5) (n := 5) htb iX3 (htb _ m_157)
  obtain ⟨c4, i4, h4⟩ := u_known (C := RX4) (T := TX4) (N := 2) (n := 2) htb iX4 (htb _ m_121)
  obtain ⟨c5, i5, h5⟩ := u_known (C := RX5) (T := TX5) (N := 7) (n := 7) htb iX5 (htb _ m_274)
  obtain ⟨c6, i6, h6⟩ := u_known (C := RX6) (T := TX6) (N := 3) (n := 3) htb iX6 (htb _ m_258)
  obtain ⟨c7, i7, h7⟩ := u_known (C := RX7) (T := TX7) (N := 4) (n := 4) htb iX7 (htb _ m_99)
  obtain ⟨c8, i8, h8⟩ := u_known (C := RX8) (T := TX8) (N := 4) (n := 4) htb iX8 (htb _ m_134)
  obtain ⟨c9, i9, h9⟩ := u_known (C := RX9) (T := TX9) (N := 6) (n := 6) htb iX9 (htb _ m_231)
  obtain ⟨c10, i10, h10⟩ := u_known (C := RX10) (T := TX10) (N := 9) (n := 9) htb iX10 (htb _ m_29)
  obtain ⟨c11, i11, h11⟩ := u_known (C := RX11) (T := TX11) (N := 14) (n := 14) htb iX11 (htb _ m_21)
  obtain ⟨c12, i12, h12⟩ := u_known (C := RX12) (T := TX12) (N := 66) (n := 66) htb iX12 (htb _ m_982)
  refine ⟨fun k => [c0, c1, c2, c3, c4, c5, c6, c7, c8, c9, c10, c11, c12].getD k c0, fun k => [i0, i1, i2, i3, i4, i5, i6, i7, i8, i9, i10, i11, i12].getD k i0, ?_⟩
  intro k q hq
  match k, hq with
  | 0, hq => cases hq; exact h0
  | 1, hq => cases hq; exact h1
  | 2, hq => cases hq; exact h2
  | 3, hq => cases hq; exact h3
  | 4, hq => cases hq; exact h4
  | 5, hq => cases hq; exact h5
  | 6, hq => cases hq; exact h6
  | 7, hq => cases hq; exact h7
  | 8, hq => cases hq; exact h8
  | 9, hq => cases hq; exact h9
  | 10, hq => cases hq; exact h10
  | 11, hq => cases hq; exact h11
  | 12, hq => cases hq; exact h12
  | k + 13, hq => simp [vwCl] at hq
/-! what the Statement gives of the texts -/
theorem pcS_atH {dC : Nat → ClassId} {dI : Nat → Nat → Nat} {av : List Value} {ws : va_W} {tys : List (ClassId × FieldType)} {H H0 : Heap} {s : State} {A A' : Nat → Prop} {adK adV : Nat → Nat} {fm : Option Nat} {locs : List Loc} (hP : va_P (dC, dI) vwCl ws H) (hK : va_K (dC, dI) vwCl tys s) (hD : va_D A' ws) (hN : nw_U s) (hE : stE adK adV fm A s H0) (hR : stR adK s) (hS : va_S A H0 H locs) (hF : ∀ q, va_A ws H.size q → A q) : ∀ U : State, U.heap = H → s.WarmedH U.vm → pcS dC dI av H.size ws tys adK adV fm av.toArray U := fun U hU hW => ⟨rfl, by rw [hU], by rw [hU]; exact hP, va_K.moved hW.alike hK, hD.weaken (fun _ _ _ _ => trivial), nw_warm hW hN, by rw [hU]; exact ((stE.moved hW.alike (hE.kept hS.2.1)).narrow hF), stR.warm hW hR⟩
theorem len_L {L : Nat} {n : Int32} (hL : L ≤ 3072) (e : n = Int32.ofNat L) : n.toInt = (L : Int) := by rw [e]; exact Int32.toInt_ofNat_of_lt (by omega)
def stM (i : Nat) : Term := Term.string "MapleLines$Tape" (72 + 2 * i)
def stF (i : Nat) : Term := Term.field (stM i) "java/lang/String" "value" "[B"
def gvF : List Cond := flatC (Jvm.Cond.and given_1 narrow_1)
theorem gv_mem {args : Array Value} {s : State} (h : (Jvm.Cond.and given_1 narrow_1).before args s = true) : ∀ w ∈ gvF, w.before args s = true := flat_of_before _ h
theorem gx_0 : Cond.exactly (stM 0) "java/lang/String" ∈ gvF := List.mem_of_getElem? (i := 9) (by decide +kernel)
theorem gc_0 : Cond.eq (.field (stM 0) "java/lang/String" "coder" "B") (.int 0) ∈ gvF := List.mem_of_getElem? (i := 10) (by decide +kernel)
theorem ga_0 : Cond.arrayOf (stF 0) .byte ∈ gvF := List.mem_of_getElem? (i := 11) (by decide +kernel)
theorem gl_0 : Cond.eq (.length (stF 0)) (.int (Int32.ofNat (stL.getD 0 0))) ∈ gvF := List.mem_of_getElem? (i := 12) (by decide +kernel)
theorem ge_0_0 : Cond.eq (.elem (stF 0) (.int (Int32.ofNat 0))) (.int ((stB.getD 0 []).getD 0 0)) ∈ gvF := List.mem_of_getElem? (i := 13) (by decide +kernel)
theorem ge_0_1 : Cond.eq (.elem (stF 0) (.int (Int32.ofNat 1))) (.int ((stB.getD 0 []).getD 1 0)) ∈ gvF := List.mem_of_getElem? (i := 14) (by decide +kernel)
theorem ge_0_2 : Cond.eq (.elem (stF 0) (.int (Int32.ofNat 2))) (.int ((stB.getD 0 []).getD 2 0)) ∈ gvF := List.mem_of_getElem? (i := 15) (by decide +kernel)
theorem ge_0_3 : Cond.eq (.elem (stF 0) (.int (Int32.ofNat 3))) (.int ((stB.getD 0 []).getD 3 0)) ∈ gvF := List.mem_of_getElem? (i := 16) (by decide +kernel)
theorem ge_0_4 : Cond.eq (.elem (stF 0) (.int (Int32.ofNat 4))) (.int ((stB.getD 0 []).getD 4 0)) ∈ gvF := List.mem_of_getElem? (i := 17) (by decide +kernel)
theorem ge_0_5 : Cond.eq (.elem (stF 0) (.int (Int32.ofNat 5))) (.int ((stB.getD 0 []).getD 5 0)) ∈ gvF := List.mem_of_getElem? (i := 18) (by decide +kernel)
theorem ge_0_6 : Cond.eq (.elem (stF 0) (.int (Int32.ofNat 6))) (.int ((stB.getD 0 []).getD 6 0)) ∈ gvF := List.mem_of_getElem? (i := 19) (by decide +kernel)
theorem ge_0_7 : Cond.eq (.elem (stF 0) (.int (Int32.ofNat 7))) (.int ((stB.getD 0 []).getD 7 0)) ∈ gvF := List.mem_of_getElem? (i := 20) (by decide +kernel)
theorem gx_1 : Cond.exactly (stM 1) "java/lang/String" ∈ gvF := List.mem_of_getElem? (i := 21) (by decide +kernel)
theorem gc_1 : Cond.eq (.field (stM 1) "java/lang/String" "coder" "B") (.int 0) ∈ gvF := List.mem_of_getElem? (i := 22) (by decide +kernel)
theorem ga_1 : Cond.arrayOf (stF 1) .byte ∈ gvF := List.mem_of_getElem? (i := 23) (by decide +kernel)
theorem gl_1 : Cond.eq (.length (stF 1)) (.int (Int32.ofNat (stL.getD 1 0))) ∈ gvF := List.mem_of_getElem? (i := 24) (by decide +kernel)
theorem ge_1_0 : Cond.eq (.elem (stF 1) (.int (Int32.ofNat 0))) (.int ((stB.getD 1 []).getD 0 0)) ∈ gvF := List.mem_of_getElem? (i := 25) (by decide +kernel)
theorem ge_1_1 : Cond.eq (.elem (stF 1) (.int (Int32.ofNat 1))) (.int ((stB.getD 1 []).getD 1 0)) ∈ gvF := List.mem_of_getElem? (i := 26) (by decide +kernel)
theorem ge_1_2 : Cond.eq (.elem (stF 1) (.int (Int32.ofNat 2))) (.int ((stB.getD 1 []).getD 2 0)) ∈ gvF := List.mem_of_getElem? (i := 27) (by decide +kernel)
theorem ge_1_3 : Cond.eq (.elem (stF 1) (.int (Int32.ofNat 3))) (.int ((stB.getD 1 []).getD 3 0)) ∈ gvF := List.mem_of_getElem? (i := 28) (by decide +kernel)
theorem ge_1_4 : Cond.eq (.elem (stF 1) (.int (Int32.ofNat 4))) (.int ((stB.getD 1 []).getD 4 0)) ∈ gvF := List.mem_of_getElem? (i := 29) (by decide +kernel)
theorem gx_2 : Cond.exactly (stM 2) "java/lang/String" ∈ gvF := List.mem_of_getElem? (i := 31) (by decide +kernel)
theorem gc_2 : Cond.eq (.field (stM 2) "java/lang/String" "coder" "B") (.int 0) ∈ gvF := List.mem_of_getElem? (i := 32) (by decide +kernel)
theorem ga_2 : Cond.arrayOf (stF 2) .byte ∈ gvF := List.mem_of_getElem? (i := 33) (by decide +kernel)
theorem gl_2 : Cond.eq (.length (stF 2)) (.int (Int32.ofNat (stL.getD 2 0))) ∈ gvF := List.mem_of_getElem? (i := 34) (by decide +kernel)
theorem ge_2_0 : Cond.eq (.elem (stF 2) (.int (Int32.ofNat 0))) (.int ((stB.getD 2 []).getD 0 0)) ∈ gvF := List.mem_of_getElem? (i := 35) (by decide +kernel)
theorem ge_2_1 : Cond.eq (.elem (stF 2) (.int (Int32.ofNat 1))) (.int ((stB.getD 2 []).getD 1 0)) ∈ gvF := List.mem_of_getElem? (i := 36) (by decide +kernel)
theorem ge_2_2 : Cond.eq (.elem (stF 2) (.int (Int32.ofNat 2))) (.int ((stB.getD 2 []).getD 2 0)) ∈ gvF := List.mem_of_getElem? (i := 37) (by decide +kernel)
theorem ge_2_3 : Cond.eq (.elem (stF 2) (.int (Int32.ofNat 3))) (.int ((stB.getD 2 []).getD 3 0)) ∈ gvF := List.mem_of_getElem? (i := 38) (by decide +kernel)
theorem gx_3 : Cond.exactly (stM 3) "java/lang/String" ∈ gvF := List.mem_of_getElem? (i := 41) (by decide +kernel)
theorem gc_3 : Cond.eq (.field (stM 3) "java/lang/String" "coder" "B") (.int 0) ∈ gvF := List.mem_of_getElem? (i := 42) (by decide +kernel)
theorem ga_3 : Cond.arrayOf (stF 3) .byte ∈ gvF := List.mem_of_getElem? (i := 43) (by decide +kernel)
theorem gl_3 : Cond.eq (.length (stF 3)) (.int (Int32.ofNat (stL.getD 3 0))) ∈ gvF := List.mem_of_getElem? (i := 44) (by decide +kernel)
theorem ge_3_0 : Cond.eq (.elem (stF 3) (.int (Int32.ofNat 0))) (.int ((stB.getD 3 []).getD 0 0)) ∈ gvF := List.mem_of_getElem? (i := 45) (by decide +kernel)
theorem ge_3_1 : Cond.eq (.elem (stF 3) (.int (Int32.ofNat 1))) (.int ((stB.getD 3 []).getD 1 0)) ∈ gvF := List.mem_of_getElem? (i := 46) (by decide +kernel)
theorem ge_3_2 : Cond.eq (.elem (stF 3) (.int (Int32.ofNat 2))) (.int ((stB.getD 3 []).getD 2 0)) ∈ gvF := List.mem_of_getElem? (i := 47) (by decide +kernel)
theorem ge_3_3 : Cond.eq (.elem (stF 3) (.int (Int32.ofNat 3))) (.int ((stB.getD 3 []).getD 3 0)) ∈ gvF := List.mem_of_getElem? (i := 48) (by decide +kernel)
theorem ge_3_4 : Cond.eq (.elem (stF 3) (.int (Int32.ofNat 4))) (.int ((stB.getD 3 []).getD 4 0)) ∈ gvF := List.mem_of_getElem? (i := 49) (by decide +kernel)
theorem ge_3_5 : Cond.eq (.elem (stF 3) (.int (Int32.ofNat 5))) (.int ((stB.getD 3 []).getD 5 0)) ∈ gvF := List.mem_of_getElem? (i := 50) (by decide +kernel)
theorem ge_3_6 : Cond.eq (.elem (stF 3) (.int (Int32.ofNat 6))) (.int ((stB.getD 3 []).getD 6 0)) ∈ gvF := List.mem_of_getElem? (i := 51) (by decide +kernel)
theorem gx_4 : Cond.exactly (stM 4) "java/lang/String" ∈ gvF := List.mem_of_getElem? (i := 55) (by decide +kernel)
theorem gc_4 : Cond.eq (.field (stM 4) "java/lang/String" "coder" "B") (.int 0) ∈ gvF := List.mem_of_getElem? (i := 56) (by decide +kernel)
theorem ga_4 : Cond.arrayOf (stF 4) .byte ∈ gvF := List.mem_of_getElem? (i := 57) (by decide +kernel)
theorem gl_4 : Cond.eq (.length (stF 4)) (.int (Int32.ofNat (stL.getD 4 0))) ∈ gvF := List.mem_of_getElem? (i := 58) (by decide +kernel)
theorem ge_4_0 : Cond.eq (.elem (stF 4) (.int (Int32.ofNat 0))) (.int ((stB.getD 4 []).getD 0 0)) ∈ gvF := List.mem_of_getElem? (i := 59) (by decide +kernel)
theorem ge_4_1 : Cond.eq (.elem (stF 4) (.int (Int32.ofNat 1))) (.int ((stB.getD 4 []).getD 1 0)) ∈ gvF := List.mem_of_getElem? (i := 60) (by decide +kernel)
theorem ge_4_2 : Cond.eq (.elem (stF 4) (.int (Int32.ofNat 2))) (.int ((stB.getD 4 []).getD 2 0)) ∈ gvF := List.mem_of_getElem? (i := 61) (by decide +kernel)
theorem ge_4_3 : Cond.eq (.elem (stF 4) (.int (Int32.ofNat 3))) (.int ((stB.getD 4 []).getD 3 0)) ∈ gvF := List.mem_of_getElem? (i := 62) (by decide +kernel)
theorem gx_5 : Cond.exactly (stM 5) "java/lang/String" ∈ gvF := List.mem_of_getElem? (i := 67) (by decide +kernel)
theorem gc_5 : Cond.eq (.field (stM 5) "java/lang/String" "coder" "B") (.int 0) ∈ gvF := List.mem_of_getElem? (i := 68) (by decide +kernel)
theorem ga_5 : Cond.arrayOf (stF 5) .byte ∈ gvF := List.mem_of_getElem? (i := 69) (by decide +kernel)
theorem gl_5 : Cond.eq (.length (stF 5)) (.int (Int32.ofNat (stL.getD 5 0))) ∈ gvF := List.mem_of_getElem? (i := 70) (by decide +kernel)
theorem ge_5_0 : Cond.eq (.elem (stF 5) (.int (Int32.ofNat 0))) (.int ((stB.getD 5 []).getD 0 0)) ∈ gvF := List.mem_of_getElem? (i := 71) (by decide +kernel)
theorem ge_5_1 : Cond.eq (.elem (stF 5) (.int (Int32.ofNat 1))) (.int ((stB.getD 5 []).getD 1 0)) ∈ gvF := List.mem_of_getElem? (i := 72) (by decide +kernel)
theorem ge_5_2 : Cond.eq (.elem (stF 5) (.int (Int32.ofNat 2))) (.int ((stB.getD 5 []).getD 2 0)) ∈ gvF := List.mem_of_getElem? (i := 73) (by decide +kernel)
theorem gx_6 : Cond.exactly (stM 6) "java/lang/String" ∈ gvF := List.mem_of_getElem? (i := 79) (by decide +kernel)
theorem gc_6 : Cond.eq (.field (stM 6) "java/lang/String" "coder" "B") (.int 0) ∈ gvF := List.mem_of_getElem? (i := 80) (by decide +kernel)
theorem ga_6 : Cond.arrayOf (stF 6) .byte ∈ gvF := List.mem_of_getElem? (i := 81) (by decide +kernel)
theorem gl_6 : Cond.eq (.length (stF 6)) (.int (Int32.ofNat (stL.getD 6 0))) ∈ gvF := List.mem_of_getElem? (i := 82) (by decide +kernel)
theorem ge_6_0 : Cond.eq (.elem (stF 6) (.int (Int32.ofNat 0))) (.int ((stB.getD 6 []).getD 0 0)) ∈ gvF := List.mem_of_getElem? (i := 83) (by decide +kernel)
theorem ge_6_1 : Cond.eq (.elem (stF 6) (.int (Int32.ofNat 1))) (.int ((stB.getD 6 []).getD 1 0)) ∈ gvF := List.mem_of_getElem? (i := 84) (by decide +kernel)
theorem gx_7 : Cond.exactly (stM 7) "java/lang/String" ∈ gvF := List.mem_of_getElem? (i := 91) (by decide +kernel)
theorem gc_7 : Cond.eq (.field (stM 7) "java/lang/String" "coder" "B") (.int 0) ∈ gvF := List.mem_of_getElem? (i := 92) (by decide +kernel)
theorem ga_7 : Cond.arrayOf (stF 7) .byte ∈ gvF := List.mem_of_getElem? (i := 93) (by decide +kernel)
theorem gl_7 : Cond.eq (.length (stF 7)) (.int (Int32.ofNat (stL.getD 7 0))) ∈ gvF := List.mem_of_getElem? (i := 94) (by decide +kernel)
theorem ge_7_0 : Cond.eq (.elem (stF 7) (.int (Int32.ofNat 0))) (.int ((stB.getD 7 []).getD 0 0)) ∈ gvF := List.mem_of_getElem? (i := 95) (by decide +kernel)
theorem ge_7_1 : Cond.eq (.elem (stF 7) (.int (Int32.ofNat 1))) (.int ((stB.getD 7 []).getD 1 0)) ∈ gvF := List.mem_of_getElem? (i := 96) (by decide +kernel)
theorem ge_7_2 : Cond.eq (.elem (stF 7) (.int (Int32.ofNat 2))) (.int ((stB.getD 7 []).getD 2 0)) ∈ gvF := List.mem_of_getElem? (i := 97) (by decide +kernel)
theorem gx_8 : Cond.exactly (stM 8) "java/lang/String" ∈ gvF := List.mem_of_getElem? (i := 105) (by decide +kernel)
theorem gc_8 : Cond.eq (.field (stM 8) "java/lang/String" "coder" "B") (.int 0) ∈ gvF := List.mem_of_getElem? (i := 106) (by decide +kernel)
theorem ga_8 : Cond.arrayOf (stF 8) .byte ∈ gvF := List.mem_of_getElem? (i := 107) (by decide +kernel)
theorem gl_8 : Cond.eq (.length (stF 8)) (.int (Int32.ofNat (stL.getD 8 0))) ∈ gvF := List.mem_of_getElem? (i := 108) (by decide +kernel)
theorem ge_8_0 : Cond.eq (.elem (stF 8) (.int (Int32.ofNat 0))) (.int ((stB.getD 8 []).getD 0 0)) ∈ gvF := List.mem_of_getElem? (i := 109) (by decide +kernel)
theorem ge_8_1 : Cond.eq (.elem (stF 8) (.int (Int32.ofNat 1))) (.int ((stB.getD 8 []).getD 1 0)) ∈ gvF := List.mem_of_getElem? (i := 110) (by decide +kernel)
theorem gx_9 : Cond.exactly (stM 9) "java/lang/String" ∈ gvF := List.mem_of_getElem? (i := 119) (by decide +kernel)
theorem gc_9 : Cond.eq (.field (stM 9) "java/lang/String" "coder" "B") (.int 0) ∈ gvF := List.mem_of_getElem? (i := 120) (by decide +kernel)
theorem ga_9 : Cond.arrayOf (stF 9) .byte ∈ gvF := List.mem_of_getElem? (i := 121) (by decide +kernel)
theorem gl_9 : Cond.eq (.length (stF 9)) (.int (Int32.ofNat (stL.getD 9 0))) ∈ gvF := List.mem_of_getElem? (i := 122) (by decide +kernel)
theorem ge_9_0 : Cond.eq (.elem (stF 9) (.int (Int32.ofNat 0))) (.int ((stB.getD 9 []).getD 0 0)) ∈ gvF := List.mem_of_getElem? (i := 123) (by decide +kernel)
theorem ge_9_1 : Cond.eq (.elem (stF 9) (.int (Int32.ofNat 1))) (.int ((stB.getD 9 []).getD 1 0)) ∈ gvF := List.mem_of_getElem? (i := 124) (by decide +kernel)
theorem ge_9_2 : Cond.eq (.elem (stF 9) (.int (Int32.ofNat 2))) (.int ((stB.getD 9 []).getD 2 0)) ∈ gvF := List.mem_of_getElem? (i := 125) (by decide +kernel)
theorem gx_10 : Cond.exactly (stM 10) "java/lang/String" ∈ gvF := List.mem_of_getElem? (i := 135) (by decide +kernel)
theorem gc_10 : Cond.eq (.field (stM 10) "java/lang/String" "coder" "B") (.int 0) ∈ gvF := List.mem_of_getElem? (i := 136) (by decide +kernel)
theorem ga_10 : Cond.arrayOf (stF 10) .byte ∈ gvF := List.mem_of_getElem? (i := 137) (by decide +kernel)
theorem gl_10 : Cond.eq (.length (stF 10)) (.int (Int32.ofNat (stL.getD 10 0))) ∈ gvF := List.mem_of_getElem? (i := 138) (by decide +kernel)
theorem ge_10_0 : Cond.eq (.elem (stF 10) (.int (Int32.ofNat 0))) (.int ((stB.getD 10 []).getD 0 0)) ∈ gvF := List.mem_of_getElem? (i := 139) (by decide +kernel)
theorem ge_10_1 : Cond.eq (.elem (stF 10) (.int (Int32.ofNat 1))) (.int ((stB.getD 10 []).getD 1 0)) ∈ gvF := List.mem_of_getElem? (i := 140) (by decide +kernel)
theorem ge_10_2 : Cond.eq (.elem (stF 10) (.int (Int32.ofNat 2))) (.int ((stB.getD 10 []).getD 2 0)) ∈ gvF := List.mem_of_getElem? (i := 141) (by decide +kernel)
theorem ge_10_3 : Cond.eq (.elem (stF 10) (.int (Int32.ofNat 3))) (.int ((stB.getD 10 []).getD 3 0)) ∈ gvF := List.mem_of_getElem? (i := 142) (by decide +kernel)
theorem gx_11 : Cond.exactly (stM 11) "java/lang/String" ∈ gvF := List.mem_of_getElem? (i := 153) (by decide +kernel)
theorem gc_11 : Cond.eq (.field (stM 11) "java/lang/String" "coder" "B") (.int 0) ∈ gvF := List.mem_of_getElem? (i := 154) (by decide +kernel)
theorem ga_11 : Cond.arrayOf (stF 11) .byte ∈ gvF := List.mem_of_getElem? (i := 155) (by decide +kernel)
theorem gl_11 : Cond.eq (.length (stF 11)) (.int (Int32.ofNat (stL.getD 11 0))) ∈ gvF := List.mem_of_getElem? (i := 156) (by decide +kernel)
theorem ge_11_0 : Cond.eq (.elem (stF 11) (.int (Int32.ofNat 0))) (.int ((stB.getD 11 []).getD 0 0)) ∈ gvF := List.mem_of_getElem? (i := 157) (by decide +kernel)
theorem ge_11_1 : Cond.eq (.elem (stF 11) (.int (Int32.ofNat 1))) (.int ((stB.getD 11 []).getD 1 0)) ∈ gvF := List.mem_of_getElem? (i := 158) (by decide +kernel)
theorem ge_11_2 : Cond.eq (.elem (stF 11) (.int (Int32.ofNat 2))) (.int ((stB.getD 11 []).getD 2 0)) ∈ gvF := List.mem_of_getElem? (i := 159) (by decide +kernel)
theorem ge_11_3 : Cond.eq (.elem (stF 11) (.int (Int32.ofNat 3))) (.int ((stB.getD 11 []).getD 3 0)) ∈ gvF := List.mem_of_getElem? (i := 160) (by decide +kernel)
theorem gx_12 : Cond.exactly (stM 12) "java/lang/String" ∈ gvF := List.mem_of_getElem? (i := 172) (by decide +kernel)
theorem gc_12 : Cond.eq (.field (stM 12) "java/lang/String" "coder" "B") (.int 0) ∈ gvF := List.mem_of_getElem? (i := 173) (by decide +kernel)
theorem ga_12 : Cond.arrayOf (stF 12) .byte ∈ gvF := List.mem_of_getElem? (i := 174) (by decide +kernel)
theorem gl_12 : Cond.eq (.length (stF 12)) (.int (Int32.ofNat (stL.getD 12 0))) ∈ gvF := List.mem_of_getElem? (i := 175) (by decide +kernel)
theorem ge_12_0 : Cond.eq (.elem (stF 12) (.int (Int32.ofNat 0))) (.int ((stB.getD 12 []).getD 0 0)) ∈ gvF := List.mem_of_getElem? (i := 176) (by decide +kernel)
theorem ge_12_1 : Cond.eq (.elem (stF 12) (.int (Int32.ofNat 1))) (.int ((stB.getD 12 []).getD 1 0)) ∈ gvF := List.mem_of_getElem? (i := 177) (by decide +kernel)
theorem ge_12_2 : Cond.eq (.elem (stF 12) (.int (Int32.ofNat 2))) (.int ((stB.getD 12 []).getD 2 0)) ∈ gvF := List.mem_of_getElem? (i := 178) (by decide +kernel)
theorem ge_12_3 : Cond.eq (.elem (stF 12) (.int (Int32.ofNat 3))) (.int ((stB.getD 12 []).getD 3 0)) ∈ gvF := List.mem_of_getElem? (i := 179) (by decide +kernel)
theorem ge_12_4 : Cond.eq (.elem (stF 12) (.int (Int32.ofNat 4))) (.int ((stB.getD 12 []).getD 4 0)) ∈ gvF := List.mem_of_getElem? (i := 180) (by decide +kernel)
theorem gn_0_1 : Cond.not (Cond.eq (stM 0) (stM 1)) ∈ gvF := List.mem_of_getElem? (i := 30) (by decide +kernel)
theorem gn_0_2 : Cond.not (Cond.eq (stM 0) (stM 2)) ∈ gvF := List.mem_of_getElem? (i := 39) (by decide +kernel)
theorem gn_1_2 : Cond.not (Cond.eq (stM 1) (stM 2)) ∈ gvF := List.mem_of_getElem? (i := 40) (by decide +kernel)
theorem gn_0_3 : Cond.not (Cond.eq (stM 0) (stM 3)) ∈ gvF := List.mem_of_getElem? (i := 52) (by decide +kernel)
theorem gn_1_3 : Cond.not (Cond.eq (stM 1) (stM 3)) ∈ gvF := List.mem_of_getElem? (i := 53) (by decide +kernel)
theorem gn_2_3 : Cond.not (Cond.eq (stM 2) (stM 3)) ∈ gvF := List.mem_of_getElem? (i := 54) (by decide +kernel)
theorem gn_0_4 : Cond.not (Cond.eq (stM 0) (stM 4)) ∈ gvF := List.mem_of_getElem? (i := 63) (by decide +kernel)
theorem gn_1_4 : Cond.not (Cond.eq (stM 1) (stM 4)) ∈ gvF := List.mem_of_getElem? (i := 64) (by decide +kernel)
theorem gn_2_4 : Cond.not (Cond.eq (stM 2) (stM 4)) ∈ gvF := List.mem_of_getElem? (i := 65) (by decide +kernel)
theorem gn_3_4 : Cond.not (Cond.eq (stM 3) (stM 4)) ∈ gvF := List.mem_of_getElem? (i := 66) (by decide +kernel)
theorem gn_0_5 : Cond.not (Cond.eq (stM 0) (stM 5)) ∈ gvF := List.mem_of_getElem? (i := 74) (by decide +kernel)
theorem gn_1_5 : Cond.not (Cond.eq (stM 1) (stM 5)) ∈ gvF := List.mem_of_getElem? (i := 75) (by decide +kernel)
theorem gn_2_5 : Cond.not (Cond.eq (stM 2) (stM 5)) ∈ gvF := List.mem_of_getElem? (i := 76) (by decide +kernel)
theorem gn_3_5 : Cond.not (Cond.eq (stM 3) (stM 5)) ∈ gvF := List.mem_of_getElem? (i := 77) (by decide +kernel)
theorem gn_4_5 : Cond.not (Cond.eq (stM 4) (stM 5)) ∈ gvF := List.mem_of_getElem? (i := 78) (by decide +kernel)
theorem gn_0_6 : Cond.not (Cond.eq (stM 0) (stM 6)) ∈ gvF := List.mem_of_getElem? (i := 85) (by decide +kernel)
theorem gn_1_6 : Cond.not (Cond.eq (stM 1) (stM 6)) ∈ gvF := List.mem_of_getElem? (i := 86) (by decide +kernel)
theorem gn_2_6 : Cond.not (Cond.eq (stM 2) (stM 6)) ∈ gvF := List.mem_of_getElem? (i := 87) (by decide +kernel)
theorem gn_3_6 : Cond.not (Cond.eq (stM 3) (stM 6)) ∈ gvF := List.mem_of_getElem? (i := 88) (by decide +kernel)
theorem gn_4_6 : Cond.not (Cond.eq (stM 4) (stM 6)) ∈ gvF := List.mem_of_getElem? (i := 89) (by decide +kernel)
theorem gn_5_6 : Cond.not (Cond.eq (stM 5) (stM 6)) ∈ gvF := List.mem_of_getElem? (i := 90) (by decide +kernel)
theorem gn_0_7 : Cond.not (Cond.eq (stM 0) (stM 7)) ∈ gvF := List.mem_of_getElem? (i := 98) (by decide +kernel)
theorem gn_1_7 : Cond.not (Cond.eq (stM 1) (stM 7)) ∈ gvF := List.mem_of_getElem? (i := 99) (by decide +kernel)
theorem gn_2_7 : Cond.not (Cond.eq (stM 2) (stM 7)) ∈ gvF := List.mem_of_getElem? (i := 100) (by decide +kernel)
theorem gn_3_7 : Cond.not (Cond.eq (stM 3) (stM 7)) ∈ gvF := List.mem_of_getElem? (i := 101) (by decide +kernel)
theorem gn_4_7 : Cond.not (Cond.eq (stM 4) (stM 7)) ∈ gvF := List.mem_of_getElem? (i := 102) (by decide +kernel)
theorem gn_5_7 : Cond.not (Cond.eq (stM 5) (stM 7)) ∈ gvF := List.mem_of_getElem? (i := 103) (by decide +kernel)
theorem gn_6_7 : Cond.not (Cond.eq (stM 6) (stM 7)) ∈ gvF := List.mem_of_getElem? (i := 104) (by decide +kernel)
theorem gn_0_8 : Cond.not (Cond.eq (stM 0) (stM 8)) ∈ gvF := List.mem_of_getElem? (i := 111) (by decide +kernel)
theorem gn_1_8 : Cond.not (Cond.eq (stM 1) (stM 8)) ∈ gvF := List.mem_of_getElem? (i := 112) (by decide +kernel)
theorem gn_2_8 : Cond.not (Cond.eq (stM 2) (stM 8)) ∈ gvF := List.mem_of_getElem? (i := 113) (by decide +kernel)
theorem gn_3_8 : Cond.not (Cond.eq (stM 3) (stM 8)) ∈ gvF := List.mem_of_getElem? (i := 114) (by decide +kernel)
theorem gn_4_8 : Cond.not (Cond.eq (stM 4) (stM 8)) ∈ gvF := List.mem_of_getElem? (i := 115) (by decide +kernel)
theorem gn_5_8 : Cond.not (Cond.eq (stM 5) (stM 8)) ∈ gvF := List.mem_of_getElem? (i := 116) (by decide +kernel)
theorem gn_6_8 : Cond.not (Cond.eq (stM 6) (stM 8)) ∈ gvF := List.mem_of_getElem? (i := 117) (by decide +kernel)
theorem gn_7_8 : Cond.not (Cond.eq (stM 7) (stM 8)) ∈ gvF := List.mem_of_getElem? (i := 118) (by decide +kernel)
theorem gn_0_9 : Cond.not (Cond.eq (stM 0) (stM 9)) ∈ gvF := List.mem_of_getElem? (i := 126) (by decide +kernel)
theorem gn_1_9 : Cond.not (Cond.eq (stM 1) (stM 9)) ∈ gvF := List.mem_of_getElem? (i := 127) (by decide +kernel)
theorem gn_2_9 : Cond.not (Cond.eq (stM 2) (stM 9)) ∈ gvF := List.mem_of_getElem? (i := 128) (by decide +kernel)
theorem gn_3_9 : Cond.not (Cond.eq (stM 3) (stM 9)) ∈ gvF := List.mem_of_getElem? (i := 129) (by decide +kernel)
theorem gn_4_9 : Cond.not (Cond.eq (stM 4) (stM 9)) ∈ gvF := List.mem_of_getElem? (i := 130) (by decide +kernel)
theorem gn_5_9 : Cond.not (Cond.eq (stM 5) (stM 9)) ∈ gvF := List.mem_of_getElem? (i := 131) (by decide +kernel)
theorem gn_6_9 : Cond.not (Cond.eq (stM 6) (stM 9)) ∈ gvF := List.mem_of_getElem? (i := 132) (by decide +kernel)
theorem gn_7_9 : Cond.not (Cond.eq (stM 7) (stM 9)) ∈ gvF := List.mem_of_getElem? (i := 133) (by decide +kernel)
theorem gn_8_9 : Cond.not (Cond.eq (stM 8) (stM 9)) ∈ gvF := List.mem_of_getElem? (i := 134) (by decide +kernel)
theorem gn_0_10 : Cond.not (Cond.eq (stM 0) (stM 10)) ∈ gvF := List.mem_of_getElem? (i := 143) (by decide +kernel)
theorem gn_1_10 : Cond.not (Cond.eq (stM 1) (stM 10)) ∈ gvF := List.mem_of_getElem? (i := 144) (by decide +kernel)
theorem gn_2_10 : Cond.not (Cond.eq (stM 2) (stM 10)) ∈ gvF := List.mem_of_getElem? (i := 145) (by decide +kernel)
theorem gn_3_10 : Cond.not (Cond.eq (stM 3) (stM 10)) ∈ gvF := List.mem_of_getElem? (i := 146) (by decide +kernel)
theorem gn_4_10 : Cond.not (Cond.eq (stM 4) (stM 10)) ∈ gvF := List.mem_of_getElem? (i := 147) (by decide +kernel)
theorem gn_5_10 : Cond.not (Cond.eq (stM 5) (stM 10)) ∈ gvF := List.mem_of_getElem? (i := 148) (by decide +kernel)
theorem gn_6_10 : Cond.not (Cond.eq (stM 6) (stM 10)) ∈ gvF := List.mem_of_getElem? (i := 149) (by decide +kernel)
theorem gn_7_10 : Cond.not (Cond.eq (stM 7) (stM 10)) ∈ gvF := List.mem_of_getElem? (i := 150) (by decide +kernel)
theorem gn_8_10 : Cond.not (Cond.eq (stM 8) (stM 10)) ∈ gvF := List.mem_of_getElem? (i := 151) (by decide +kernel)
theorem gn_9_10 : Cond.not (Cond.eq (stM 9) (stM 10)) ∈ gvF := List.mem_of_getElem? (i := 152) (by decide +kernel)
theorem gn_0_11 : Cond.not (Cond.eq (stM 0) (stM 11)) ∈ gvF := List.mem_of_getElem? (i := 161) (by decide +kernel)
theorem gn_1_11 : Cond.not (Cond.eq (stM 1) (stM 11)) ∈ gvF := List.mem_of_getElem? (i := 162) (by decide +kernel)
theorem gn_2_11 : Cond.not (Cond.eq (stM 2) (stM 11)) ∈ gvF := List.mem_of_getElem? (i := 163) (by decide +kernel)
theorem gn_3_11 : Cond.not (Cond.eq (stM 3) (stM 11)) ∈ gvF := List.mem_of_getElem? (i := 164) (by decide +kernel)
theorem gn_4_11 : Cond.not (Cond.eq (stM 4) (stM 11)) ∈ gvF := List.mem_of_getElem? (i := 165) (by decide +kernel)
theorem gn_5_11 : Cond.not (Cond.eq (stM 5) (stM 11)) ∈ gvF := List.mem_of_getElem? (i := 166) (by decide +kernel)
theorem gn_6_11 : Cond.not (Cond.eq (stM 6) (stM 11)) ∈ gvF := List.mem_of_getElem? (i := 167) (by decide +kernel)
theorem gn_7_11 : Cond.not (Cond.eq (stM 7) (stM 11)) ∈ gvF := List.mem_of_getElem? (i := 168) (by decide +kernel)
theorem gn_8_11 : Cond.not (Cond.eq (stM 8) (stM 11)) ∈ gvF := List.mem_of_getElem? (i := 169) (by decide +kernel)
theorem gn_9_11 : Cond.not (Cond.eq (stM 9) (stM 11)) ∈ gvF := List.mem_of_getElem? (i := 170) (by decide +kernel)
theorem gn_10_11 : Cond.not (Cond.eq (stM 10) (stM 11)) ∈ gvF := List.mem_of_getElem? (i := 171) (by decide +kernel)
theorem gn_0_12 : Cond.not (Cond.eq (stM 0) (stM 12)) ∈ gvF := List.mem_of_getElem? (i := 181) (by decide +kernel)
theorem gn_1_12 : Cond.not (Cond.eq (stM 1) (stM 12)) ∈ gvF := List.mem_of_getElem? (i := 182) (by decide +kernel)
theorem gn_2_12 : Cond.not (Cond.eq (stM 2) (stM 12)) ∈ gvF := List.mem_of_getElem? (i := 183) (by decide +kernel)
theorem gn_3_12 : Cond.not (Cond.eq (stM 3) (stM 12)) ∈ gvF := List.mem_of_getElem? (i := 184) (by decide +kernel)
theorem gn_4_12 : Cond.not (Cond.eq (stM 4) (stM 12)) ∈ gvF := List.mem_of_getElem? (i := 185) (by decide +kernel)
theorem gn_5_12 : Cond.not (Cond.eq (stM 5) (stM 12)) ∈ gvF := List.mem_of_getElem? (i := 186) (by decide +kernel)
theorem gn_6_12 : Cond.not (Cond.eq (stM 6) (stM 12)) ∈ gvF := List.mem_of_getElem? (i := 187) (by decide +kernel)
theorem gn_7_12 : Cond.not (Cond.eq (stM 7) (stM 12)) ∈ gvF := List.mem_of_getElem? (i := 188) (by decide +kernel)
theorem gn_8_12 : Cond.not (Cond.eq (stM 8) (stM 12)) ∈ gvF := List.mem_of_getElem? (i := 189) (by decide +kernel)
theorem gn_9_12 : Cond.not (Cond.eq (stM 9) (stM 12)) ∈ gvF := List.mem_of_getElem? (i := 190) (by decide +kernel)
theorem gn_10_12 : Cond.not (Cond.eq (stM 10) (stM 12)) ∈ gvF := List.mem_of_getElem? (i := 191) (by decide +kernel)
theorem gn_11_12 : Cond.not (Cond.eq (stM 11) (stM 12)) ∈ gvF := List.mem_of_getElem? (i := 192) (by decide +kernel)
theorem gv_1 : ∀ i, i < 13 → (Cond.exactly (stM i) "java/lang/String" ∈ gvF ∧ Cond.eq (.field (stM i) "java/lang/String" "coder" "B") (.int 0) ∈ gvF ∧ Cond.arrayOf (stF i) .byte ∈ gvF ∧ Cond.eq (.length (stF i)) (.int (Int32.ofNat (stL.getD i 0))) ∈ gvF) := by
  intro i hi
  match i, hi with
  | 0, _ => exact ⟨gx_0, gc_0, ga_0, gl_0⟩
  | 1, _ => exact ⟨gx_1, gc_1, ga_1, gl_1⟩
  | 2, _ => exact ⟨gx_2, gc_2, ga_2, gl_2⟩
  | 3, _ => exact ⟨gx_3, gc_3, ga_3, gl_3⟩
  | 4, _ => exact ⟨gx_4, gc_4, ga_4, gl_4⟩
  | 5, _ => exact ⟨gx_5, gc_5, ga_5, gl_5⟩
  | 6, _ => exact ⟨gx_6, gc_6, ga_6, gl_6⟩
  | 7, _ => exact ⟨gx_7, gc_7, ga_7, gl_7⟩
  | 8, _ => exact ⟨gx_8, gc_8, ga_8, gl_8⟩
  | 9, _ => exact ⟨gx_9, gc_9, ga_9, gl_9⟩
  | 10, _ => exact ⟨gx_10, gc_10, ga_10, gl_10⟩
  | 11, _ => exact ⟨gx_11, gc_11, ga_11, gl_11⟩
  | 12, _ => exact ⟨gx_12, gc_12, ga_12, gl_12⟩
  | k + 13, h => exact absurd h (by omega)
theorem zgr_0 : ∀ j, j < 8 → Cond.eq (.elem (stF 0) (.int (Int32.ofNat j))) (.int ((stB.getD 0 []).getD j 0)) ∈ gvF := by
  intro j hj
  match j, hj with
  | 0, _ => exact ge_0_0
  | 1, _ => exact ge_0_1
  | 2, _ => exact ge_0_2
  | 3, _ => exact ge_0_3
  | 4, _ => exact ge_0_4
  | 5, _ => exact ge_0_5
  | 6, _ => exact ge_0_6
  | 7, _ => exact ge_0_7
  | k + 8, h => exact absurd h (by omega)
theorem zgr_1 : ∀ j, j < 5 → Cond.eq (.elem (stF 1) (.int (Int32.ofNat j))) (.int ((stB.getD 1 []).getD j 0)) ∈ gvF := by
  intro j hj
  match j, hj with
  | 0, _ => exact ge_1_0
  | 1, _ => exact ge_1_1
  | 2, _ => exact ge_1_2
  | 3, _ => exact ge_1_3
  | 4, _ => exact ge_1_4
  | k + 5, h => exact absurd h (by omega)
theorem zgr_2 : ∀ j, j < 4 → Cond.eq (.elem (stF 2) (.int (Int32.ofNat j))) (.int ((stB.getD 2 []).getD j 0)) ∈ gvF := by
  intro j hj
  match j, hj with
  | 0, _ => exact ge_2_0
  | 1, _ => exact ge_2_1
  | 2, _ => exact ge_2_2
  | 3, _ => exact ge_2_3
  | k + 4, h => exact absurd h (by omega)
theorem zgr_3 : ∀ j, j < 7 → Cond.eq (.elem (stF 3) (.int (Int32.ofNat j))) (.int ((stB.getD 3 []).getD j 0)) ∈ gvF := by
  intro j hj
  match j, hj with
  | 0, _ => exact ge_3_0
  | 1, _ => exact ge_3_1
  | 2, _ => exact ge_3_2
  | 3, _ => exact ge_3_3
  | 4, _ => exact ge_3_4
  | 5, _ => exact ge_3_5
  | 6, _ => exact ge_3_6
  | k + 7, h => exact absurd h (by omega)
theorem zgr_4 : ∀ j, j < 4 → Cond.eq (.elem (stF 4) (.int (Int32.ofNat j))) (.int ((stB.getD 4 []).getD j 0)) ∈ gvF := by
  intro j hj
  match j, hj with
  | 0, _ => exact ge_4_0
  | 1, _ => exact ge_4_1
  | 2, _ => exact ge_4_2
  | 3, _ => exact ge_4_3
  | k + 4, h => exact absurd h (by omega)
theorem zgr_5 : ∀ j, j < 3 → Cond.eq (.elem (stF 5) (.int (Int32.ofNat j))) (.int ((stB.getD 5 []).getD j 0)) ∈ gvF := by
  intro j hj
  match j, hj with
  | 0, _ => exact ge_5_0
  | 1, _ => exact ge_5_1
  | 2, _ => exact ge_5_2
  | k + 3, h => exact absurd h (by omega)
theorem zgr_6 : ∀ j, j < 2 → Cond.eq (.elem (stF 6) (.int (Int32.ofNat j))) (.int ((stB.getD 6 []).getD j 0)) ∈ gvF := by
  intro j hj
  match j, hj with
  | 0, _ => exact ge_6_0
  | 1, _ => exact ge_6_1
  | k + 2, h => exact absurd h (by omega)
theorem zgr_7 : ∀ j, j < 3 → Cond.eq (.elem (stF 7) (.int (Int32.ofNat j))) (.int ((stB.getD 7 []).getD j 0)) ∈ gvF := by
  intro j hj
  match j, hj with
  | 0, _ => exact ge_7_0
  | 1, _ => exact ge_7_1
  | 2, _ => exact ge_7_2
  | k + 3, h => exact absurd h (by omega)
theorem zgr_8 : ∀ j, j < 2 → Cond.eq (.elem (stF 8) (.int (Int32.ofNat j))) (.int ((stB.getD 8 []).getD j 0)) ∈ gvF := by
  intro j hj
  match j, hj with
  | 0, _ => exact ge_8_0
  | 1, _ => exact ge_8_1
  | k + 2, h => exact absurd h (by omega)
theorem zgr_9 : ∀ j, j < 3 → Cond.eq (.elem (stF 9) (.int (Int32.ofNat j))) (.int ((stB.getD 9 []).getD j 0)) ∈ gvF := by
  intro j hj
  match j, hj with
  | 0, _ => exact ge_9_0
  | 1, _ => exact ge_9_1
  | 2, _ => exact ge_9_2
  | k + 3, h => exact absurd h (by omega)
theorem zgr_10 : ∀ j, j < 4 → Cond.eq (.elem (stF 10) (.int (Int32.ofNat j))) (.int ((stB.getD 10 []).getD j 0)) ∈ gvF := by
  intro j hj
  match j, hj with
  | 0, _ => exact ge_10_0
  | 1, _ => exact ge_10_1
  | 2, _ => exact ge_10_2
  | 3, _ => exact ge_10_3
  | k + 4, h => exact absurd h (by omega)
theorem zgr_11 : ∀ j, j < 4 → Cond.eq (.elem (stF 11) (.int (Int32.ofNat j))) (.int ((stB.getD 11 []).getD j 0)) ∈ gvF := by
  intro j hj
  match j, hj with
  | 0, _ => exact ge_11_0
  | 1, _ => exact ge_11_1
  | 2, _ => exact ge_11_2
  | 3, _ => exact ge_11_3
  | k + 4, h => exact absurd h (by omega)
theorem zgr_12 : ∀ j, j < 5 → Cond.eq (.elem (stF 12) (.int (Int32.ofNat j))) (.int ((stB.getD 12 []).getD j 0)) ∈ gvF := by
  intro j hj
  match j, hj with
  | 0, _ => exact ge_12_0
  | 1, _ => exact ge_12_1
  | 2, _ => exact ge_12_2
  | 3, _ => exact ge_12_3
  | 4, _ => exact ge_12_4
  | k + 5, h => exact absurd h (by omega)
theorem gv_2 : ∀ i, i < 13 → ∀ j, j < 8 → j < stL.getD i 0 → Cond.eq (.elem (stF i) (.int (Int32.ofNat j))) (.int ((stB.getD i []).getD j 0)) ∈ gvF := by
  intro i hi j _ hj
  match i, hi with
  | 0, _ => exact zgr_0 j hj
  | 1, _ => exact zgr_1 j hj
  | 2, _ => exact zgr_2 j hj
  | 3, _ => exact zgr_3 j hj
  | 4, _ => exact zgr_4 j hj
  | 5, _ => exact zgr_5 j hj
  | 6, _ => exact zgr_6 j hj
  | 7, _ => exact zgr_7 j hj
  | 8, _ => exact zgr_8 j hj
  | 9, _ => exact zgr_9 j hj
  | 10, _ => exact zgr_10 j hj
  | 11, _ => exact zgr_11 j hj
  | 12, _ => exact zgr_12 j hj
  | k + 13, h => exact absurd h (by omega)
theorem gp_0 : ∀ j, j < 13 → 0 ≠ j → (Cond.not (Cond.eq (stM 0) (stM j)) ∈ gvF ∨ Cond.not (Cond.eq (stM j) (stM 0)) ∈ gvF) := by
  intro j hj hn
  match j, hj, hn with
  | 0, _, hn => exact absurd rfl hn
  | 1, _, _ => exact Or.inl gn_0_1
  | 2, _, _ => exact Or.inl gn_0_2
  | 3, _, _ => exact Or.inl gn_0_3
  | 4, _, _ => exact Or.inl gn_0_4
  | 5, _, _ => exact Or.inl gn_0_5
  | 6, _, _ => exact Or.inl gn_0_6
  | 7, _, _ => exact Or.inl gn_0_7
  | 8, _, _ => exact Or.inl gn_0_8
  | 9, _, _ => exact Or.inl gn_0_9
  | 10, _, _ => exact Or.inl gn_0_10
  | 11, _, _ => exact Or.inl gn_0_11
  | 12, _, _ => exact Or.inl gn_0_12
  | k + 13, h, _ => exact absurd h (by omega)
theorem gp_1 : ∀ j, j < 13 → 1 ≠ j → (Cond.not (Cond.eq (stM 1) (stM j)) ∈ gvF ∨ Cond.not (Cond.eq (stM j) (stM 1)) ∈ gvF) := by
  intro j hj hn
  match j, hj, hn with
  | 0, _, _ => exact Or.inr gn_0_1
  | 1, _, hn => exact absurd rfl hn
  | 2, _, _ => exact Or.inl gn_1_2
  | 3, _, _ => exact Or.inl gn_1_3
  | 4, _, _ => exact Or.inl gn_1_4
  | 5, _, _ => exact Or.inl gn_1_5
  | 6, _, _ => exact Or.inl gn_1_6
  | 7, _, _ => exact Or.inl gn_1_7
  | 8, _, _ => exact Or.inl gn_1_8
  | 9, _, _ => exact Or.inl gn_1_9
  | 10, _, _ => exact Or.inl gn_1_10
  | 11, _, _ => exact Or.inl gn_1_11
  | 12, _, _ => exact Or.inl gn_1_12
  | k + 13, h, _ => exact absurd h (by omega)
theorem gp_2 : ∀ j, j < 13 → 2 ≠ j → (Cond.not (Cond.eq (stM 2) (stM j)) ∈ gvF ∨ Cond.not (Cond.eq (stM j) (stM 2)) ∈ gvF) := by
  intro j hj hn
  match j, hj, hn with
  | 0, _, _ => exact Or.inr gn_0_2
  | 1, _, _ => exact Or.inr gn_1_2
  | 2, _, hn => exact absurd rfl hn
  | 3, _, _ => exact Or.inl gn_2_3
  | 4, _, _ => exact Or.inl gn_2_4
  | 5, _, _ => exact Or.inl gn_2_5
  | 6, _, _ => exact Or.inl gn_2_6
  | 7, _, _ => exact Or.inl gn_2_7
  | 8, _, _ => exact Or.inl gn_2_8
  | 9, _, _ => exact Or.inl gn_2_9
  | 10, _, _ => exact Or.inl gn_2_10
  | 11, _, _ => exact Or.inl gn_2_11
  | 12, _, _ => exact Or.inl gn_2_12
  | k + 13, h, _ => exact absurd h (by omega)
theorem gp_3 : ∀ j, j < 13 → 3 ≠ j → (Cond.not (Cond.eq (stM 3) (stM j)) ∈ gvF ∨ Cond.not (Cond.eq (stM j) (stM 3)) ∈ gvF) := by
  intro j hj hn
  match j, hj, hn with
  | 0, _, _ => exact Or.inr gn_0_3
  | 1, _, _ => exact Or.inr gn_1_3
  | 2, _, _ => exact Or.inr gn_2_3
  | 3, _, hn => exact absurd rfl hn
  | 4, _, _ => exact Or.inl gn_3_4
  | 5, _, _ => exact Or.inl gn_3_5
  | 6, _, _ => exact Or.inl gn_3_6
  | 7, _, _ => exact Or.inl gn_3_7
  | 8, _, _ => exact Or.inl gn_3_8
  | 9, _, _ => exact Or.inl gn_3_9
  | 10, _, _ => exact Or.inl gn_3_10
  | 11, _, _ => exact Or.inl gn_3_11
  | 12, _, _ => exact Or.inl gn_3_12
  | k + 13, h, _ => exact absurd h (by omega)
theorem gp_4 : ∀ j, j < 13 → 4 ≠ j → (Cond.not (Cond.eq (stM 4) (stM j)) ∈ gvF ∨ Cond.not (Cond.eq (stM j) (stM 4)) ∈ gvF) := by
  intro j hj hn
  match j, hj, hn with
  | 0, _, _ => exact Or.inr gn_0_4
  | 1, _, _ => exact Or.inr gn_1_4
  | 2, _, _ => exact Or.inr gn_2_4
  | 3, _, _ => exact Or.inr gn_3_4
  | 4, _, hn => exact absurd rfl hn
  | 5, _, _ => exact Or.inl gn_4_5
  | 6, _, _ => exact Or.inl gn_4_6
  | 7, _, _ => exact Or.inl gn_4_7
  | 8, _, _ => exact Or.inl gn_4_8
  | 9, _, _ => exact Or.inl gn_4_9
  | 10, _, _ => exact Or.inl gn_4_10
  | 11, _, _ => exact Or.inl gn_4_11
  | 12, _, _ => exact Or.inl gn_4_12
  | k + 13, h, _ => exact absurd h (by omega)
theorem gp_5 : ∀ j, j < 13 → 5 ≠ j → (Cond.not (Cond.eq (stM 5) (stM j)) ∈ gvF ∨ Cond.not (Cond.eq (stM j) (stM 5)) ∈ gvF) := by
  intro j hj hn
  match j, hj, hn with
  | 0, _, _ => exact Or.inr gn_0_5
  | 1, _, _ => exact Or.inr gn_1_5
  | 2, _, _ => exact Or.inr gn_2_5
  | 3, _, _ => exact Or.inr gn_3_5
  | 4, _, _ => exact Or.inr gn_4_5
  | 5, _, hn => exact absurd rfl hn
  | 6, _, _ => exact Or.inl gn_5_6
  | 7, _, _ => exact Or.inl gn_5_7
  | 8, _, _ => exact Or.inl gn_5_8
  | 9, _, _ => exact Or.inl gn_5_9
  | 10, _, _ => exact Or.inl gn_5_10
  | 11, _, _ => exact Or.inl gn_5_11
  | 12, _, _ => exact Or.inl gn_5_12
  | k + 13, h, _ => exact absurd h (by omega)
theorem gp_6 : ∀ j, j < 13 → 6 ≠ j → (Cond.not (Cond.eq (stM 6) (stM j)) ∈ gvF ∨ Cond.not (Cond.eq (stM j) (stM 6)) ∈ gvF) := by
  intro j hj hn
  match j, hj, hn with
  | 0, _, _ => exact Or.inr gn_0_6
  | 1, _, _ => exact Or.inr gn_1_6
  | 2, _, _ => exact Or.inr gn_2_6
  | 3, _, _ => exact Or.inr gn_3_6
  | 4, _, _ => exact Or.inr gn_4_6
  | 5, _, _ => exact Or.inr gn_5_6
  | 6, _, hn => exact absurd rfl hn
  | 7, _, _ => exact Or.inl gn_6_7
  | 8, _, _ => exact Or.inl gn_6_8
  | 9, _, _ => exact Or.inl gn_6_9
  | 10, _, _ => exact Or.inl gn_6_10
  | 11, _, _ => exact Or.inl gn_6_11
  | 12, _, _ => exact Or.inl gn_6_12
  | k + 13, h, _ => exact absurd h (by omega)
theorem gp_7 : ∀ j, j < 13 → 7 ≠ j → (Cond.not (Cond.eq (stM 7) (stM j)) ∈ gvF ∨ Cond.not (Cond.eq (stM j) (stM 7)) ∈ gvF) := by
  intro j hj hn
  match j, hj, hn with
  | 0, _, _ => exact Or.inr gn_0_7
  | 1, _, _ => exact Or.inr gn_1_7
  | 2, _, _ => exact Or.inr gn_2_7
  | 3, _, _ => exact Or.inr gn_3_7
  | 4, _, _ => exact Or.inr gn_4_7
  | 5, _, _ => exact Or.inr gn_5_7
  | 6, _, _ => exact Or.inr gn_6_7
  | 7, _, hn => exact absurd rfl hn
  | 8, _, _ => exact Or.inl gn_7_8
  | 9, _, _ => exact Or.inl gn_7_9
  | 10, _, _ => exact Or.inl gn_7_10
  | 11, _, _ => exact Or.inl gn_7_11
  | 12, _, _ => exact Or.inl gn_7_12
  | k + 13, h, _ => exact absurd h (by omega)
theorem gp_8 : ∀ j, j < 13 → 8 ≠ j → (Cond.not (Cond.eq (stM 8) (stM j)) ∈ gvF ∨ Cond.not (Cond.eq (stM j) (stM 8)) ∈ gvF) := by
  intro j hj hn
  match j, hj, hn with
  | 0, _, _ => exact Or.inr gn_0_8
  | 1, _, _ => exact Or.inr gn_1_8
  | 2, _, _ => exact Or.inr gn_2_8
  | 3, _, _ => exact Or.inr gn_3_8
  | 4, _, _ => exact Or.inr gn_4_8
  | 5, _, _ => exact Or.inr gn_5_8
  | 6, _, _ => exact Or.inr gn_6_8
  | 7, _, _ => exact Or.inr gn_7_8
  | 8, _, hn => exact absurd rfl hn
  | 9, _, _ => exact Or.inl gn_8_9
  | 10, _, _ => exact Or.inl gn_8_10
  | 11, _, _ => exact Or.inl gn_8_11
  | 12, _, _ => exact Or.inl gn_8_12
  | k + 13, h, _ => exact absurd h (by omega)
theorem gp_9 : ∀ j, j < 13 → 9 ≠ j → (Cond.not (Cond.eq (stM 9) (stM j)) ∈ gvF ∨ Cond.not (Cond.eq (stM j) (stM 9)) ∈ gvF) := by
  intro j hj hn
  match j, hj, hn with
  | 0, _, _ => exact Or.inr gn_0_9
  | 1, _, _ => exact Or.inr gn_1_9
  | 2, _, _ => exact Or.inr gn_2_9
  | 3, _, _ => exact Or.inr gn_3_9
  | 4, _, _ => exact Or.inr gn_4_9
  | 5, _, _ => exact Or.inr gn_5_9
  | 6, _, _ => exact Or.inr gn_6_9
  | 7, _, _ => exact Or.inr gn_7_9
  | 8, _, _ => exact Or.inr gn_8_9
  | 9, _, hn => exact absurd rfl hn
  | 10, _, _ => exact Or.inl gn_9_10
  | 11, _, _ => exact Or.inl gn_9_11
  | 12, _, _ => exact Or.inl gn_9_12
  | k + 13, h, _ => exact absurd h (by omega)
theorem gp_10 : ∀ j, j < 13 → 10 ≠ j → (Cond.not (Cond.eq (stM 10) (stM j)) ∈ gvF ∨ Cond.not (Cond.eq (stM j) (stM 10)) ∈ gvF) := by
  intro j hj hn
  match j, hj, hn with
  | 0, _, _ => exact Or.inr gn_0_10
  | 1, _, _ => exact Or.inr gn_1_10
  | 2, _, _ => exact Or.inr gn_2_10
  | 3, _, _ => exact Or.inr gn_3_10
  | 4, _, _ => exact Or.inr gn_4_10
  | 5, _, _ => exact Or.inr gn_5_10
  | 6, _, _ => exact Or.inr gn_6_10
  | 7, _, _ => exact Or.inr gn_7_10
  | 8, _, _ => exact Or.inr gn_8_10
  | 9, _, _ => exact Or.inr gn_9_10
  | 10, _, hn => exact absurd rfl hn
  | 11, _, _ => exact Or.inl gn_10_11
  | 12, _, _ => exact Or.inl gn_10_12
  | k + 13, h, _ => exact absurd h (by omega)
theorem gp_11 : ∀ j, j < 13 → 11 ≠ j → (Cond.not (Cond.eq (stM 11) (stM j)) ∈ gvF ∨ Cond.not (Cond.eq (stM j) (stM 11)) ∈ gvF) := by
  intro j hj hn
  match j, hj, hn with
  | 0, _, _ => exact Or.inr gn_0_11
  | 1, _, _ => exact Or.inr gn_1_11
  | 2, _, _ => exact Or.inr gn_2_11
  | 3, _, _ => exact Or.inr gn_3_11
  | 4, _, _ => exact Or.inr gn_4_11
  | 5, _, _ => exact Or.inr gn_5_11
  | 6, _, _ => exact Or.inr gn_6_11
  | 7, _, _ => exact Or.inr gn_7_11
  | 8, _, _ => exact Or.inr gn_8_11
  | 9, _, _ => exact Or.inr gn_9_11
  | 10, _, _ => exact Or.inr gn_10_11
  | 11, _, hn => exact absurd rfl hn
  | 12, _, _ => exact Or.inl gn_11_12
  | k + 13, h, _ => exact absurd h (by omega)
theorem gp_12 : ∀ j, j < 13 → 12 ≠ j → (Cond.not (Cond.eq (stM 12) (stM j)) ∈ gvF ∨ Cond.not (Cond.eq (stM j) (stM 12)) ∈ gvF) := by
  intro j hj hn
  match j, hj, hn with
  | 0, _, _ => exact Or.inr gn_0_12
  | 1, _, _ => exact Or.inr gn_1_12
  | 2, _, _ => exact Or.inr gn_2_12
  | 3, _, _ => exact Or.inr gn_3_12
  | 4, _, _ => exact Or.inr gn_4_12
  | 5, _, _ => exact Or.inr gn_5_12
  | 6, _, _ => exact Or.inr gn_6_12
  | 7, _, _ => exact Or.inr gn_7_12
  | 8, _, _ => exact Or.inr gn_8_12
  | 9, _, _ => exact Or.inr gn_9_12
  | 10, _, _ => exact Or.inr gn_10_12
  | 11, _, _ => exact Or.inr gn_11_12
  | 12, _, hn => exact absurd rfl hn
  | k + 13, h, _ => exact absurd h (by omega)
theorem gv_3 : ∀ i, i < 13 → ∀ j, j < 13 → i ≠ j → (Cond.not (Cond.eq (stM i) (stM j)) ∈ gvF ∨ Cond.not (Cond.eq (stM j) (stM i)) ∈ gvF) := by
  intro i hi
  match i, hi with
  | 0, _ => exact gp_0
  | 1, _ => exact gp_1
  | 2, _ => exact gp_2
  | 3, _ => exact gp_3
  | 4, _ => exact gp_4
  | 5, _ => exact gp_5
  | 6, _ => exact gp_6
  | 7, _ => exact gp_7
  | 8, _ => exact gp_8
  | 9, _ => exact gp_9
  | 10, _ => exact gp_10
  | 11, _ => exact gp_11
  | 12, _ => exact gp_12
  | k + 13, h => exact absurd h (by omega)
theorem gv_4 : Cond.eq (Term.static "java/lang/String" "COMPACT_STRINGS" "Z") (Term.int 1) ∈ gvF := List.mem_of_getElem? (i := 4) (by decide +kernel)
theorem gv_5 : Cond.isRef (Term.static "jdk/internal/util/Preconditions" "SIOOBE_FORMATTER" "Ljava/util/function/BiFunction;") ∈ gvF := List.mem_of_getElem? (i := 5) (by decide +kernel)
theorem gw_ls : Cond.laysStatic "java/lang/String" "COMPACT_STRINGS" "Z" ∈ lw_tbl := List.mem_append_right _ (List.mem_of_getElem? (i := 859) (by decide +kernel))
theorem gw_is : Cond.initialized "java/lang/String" ∈ lw_tbl := List.mem_append_right _ (List.mem_of_getElem? (i := 16) (by decide +kernel))
theorem gw_lp : Cond.laysStatic "jdk/internal/util/Preconditions" "SIOOBE_FORMATTER" "Ljava/util/function/BiFunction;" ∈ lw_tbl := List.mem_append_right _ (List.mem_of_getElem? (i := 875) (by decide +kernel))
theorem gw_ip : Cond.initialized "jdk/internal/util/Preconditions" ∈ lw_tbl := List.mem_append_right _ (List.mem_of_getElem? (i := 18) (by decide +kernel))
theorem gw_t0 : Cond.stringRef "MapleLines$Tape" 72 "strength" ∈ lw_tbl := List.mem_append_right _ (List.mem_of_getElem? (i := 833) (by decide +kernel))
theorem gw_t1 : Cond.stringRef "MapleLines$Tape" 74 "parts" ∈ lw_tbl := List.mem_append_right _ (List.mem_of_getElem? (i := 834) (by decide +kernel))
theorem gw_t2 : Cond.stringRef "MapleLines$Tape" 76 "heat" ∈ lw_tbl := List.mem_append_right _ (List.mem_of_getElem? (i := 835) (by decide +kernel))
theorem gw_t3 : Cond.stringRef "MapleLines$Tape" 78 "minutes" ∈ lw_tbl := List.mem_append_right _ (List.mem_of_getElem? (i := 836) (by decide +kernel))
theorem gw_t4 : Cond.stringRef "MapleLines$Tape" 80 "look" ∈ lw_tbl := List.mem_append_right _ (List.mem_of_getElem? (i := 837) (by decide +kernel))
theorem gw_t5 : Cond.stringRef "MapleLines$Tape" 82 "day" ∈ lw_tbl := List.mem_append_right _ (List.mem_of_getElem? (i := 838) (by decide +kernel))
theorem gw_t6 : Cond.stringRef "MapleLines$Tape" 84 "in" ∈ lw_tbl := List.mem_append_right _ (List.mem_of_getElem? (i := 839) (by decide +kernel))
theorem gw_t7 : Cond.stringRef "MapleLines$Tape" 86 "pan" ∈ lw_tbl := List.mem_append_right _ (List.mem_of_getElem? (i := 840) (by decide +kernel))
theorem gw_t8 : Cond.stringRef "MapleLines$Tape" 88 "if" ∈ lw_tbl := List.mem_append_right _ (List.mem_of_getElem? (i := 841) (by decide +kernel))
theorem gw_t9 : Cond.stringRef "MapleLines$Tape" 90 "and" ∈ lw_tbl := List.mem_append_right _ (List.mem_of_getElem? (i := 842) (by decide +kernel))
theorem gw_t10 : Cond.stringRef "MapleLines$Tape" 92 "then" ∈ lw_tbl := List.mem_append_right _ (List.mem_of_getElem? (i := 843) (by decide +kernel))
theorem gw_t11 : Cond.stringRef "MapleLines$Tape" 94 "draw" ∈ lw_tbl := List.mem_append_right _ (List.mem_of_getElem? (i := 844) (by decide +kernel))
theorem gw_t12 : Cond.stringRef "MapleLines$Tape" 96 "grade" ∈ lw_tbl := List.mem_append_right _ (List.mem_of_getElem? (i := 845) (by decide +kernel))
theorem gw_st : ∀ i, i < 13 → Cond.stringRef "MapleLines$Tape" (72 + 2 * i) (stT.getD i "") ∈ lw_tbl := by
  intro i hi
  match i, hi with
  | 0, _ => exact gw_t0
  | 1, _ => exact gw_t1
  | 2, _ => exact gw_t2
  | 3, _ => exact gw_t3
  | 4, _ => exact gw_t4
  | 5, _ => exact gw_t5
  | 6, _ => exact gw_t6
  | 7, _ => exact gw_t7
  | 8, _ => exact gw_t8
  | 9, _ => exact gw_t9
  | 10, _ => exact gw_t10
  | 11, _ => exact gw_t11
  | 12, _ => exact gw_t12
  | k + 13, h => exact absurd h (by omega)
theorem st_given {b : Nat} {s : State} (h : (Jvm.Cond.and given_1 narrow_1).before #[Value.ref b] s = true) (hts : ∀ w ∈ lw_tbl, w.before #[Value.ref b] s = true) : ∃ (adK adV : Nat → Nat) (fm : Option Nat), stE adK adV fm (fun q => s.heap.size ≤ q) s s.heap ∧ stR adK s := by
  have hg := gv_mem h
  have hA : ∀ a : Nat, a < s.heap.size → ¬ (fun q => s.heap.size ≤ q) a := fun a ha => Nat.not_le.mpr ha
  obtain ⟨adK, adV, hS, hT⟩ := vk_Sof (N := 13) (tm := stM) (len := stL) (byt := stB) (A := fun q => s.heap.size ≤ q) (fun i hi => by have := (st_all i hi).2.1; omega) (fun i hi => hg _ (gv_1 i hi).1) (fun i hi => hg _ (gv_1 i hi).2.1) (fun i hi => hg _ (gv_1 i hi).2.2.1) (fun i hi => hg _ (gv_1 i hi).2.2.2)
    (fun i hi j hj => hg _ (gv_2 i hi j (by have := (st_all i hi).2.1; omega) hj))
    (fun i j hi hj hij => (gv_3 i hi j hj hij).elim (fun q => Or.inl (hg _ q)) (fun q => Or.inr (hg _ q))) hA
  have hz := va_Zof (A := fun q => s.heap.size ≤ q) (hts _ gw_ls) (hts _ gw_is) (va_eqt (hg _ gv_4)) hA
  have hR : stR adK s := fun i hi => vk_R.of (hts _ (gw_st i hi)) (hT i hi)
  rcases va_Zqof (A := fun q => s.heap.size ≤ q) (hts _ gw_lp) (hts _ gw_ip) (hg _ gv_5) hA with q | ⟨t, q⟩
  · exact ⟨adK, adV, none, ⟨hS, hz, q⟩, hR⟩
  · exact ⟨adK, adV, some t, ⟨hS, hz, q⟩, hR⟩
