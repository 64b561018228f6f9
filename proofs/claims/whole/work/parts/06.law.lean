/-! THE CLAIM OUT OF ONE WALK OF THE LAW'S BODY. Your part is whole_start (and what it stands on); all else here is the same for every law, but numbers. -/
def R_law : String := "SonsPurseLaw"
def lw_P (b : Addr) (xs : List Int32) (args : Array Value) (s : State) : Prop := args = #[.ref b] ∧ s.IntsAt b xs ∧ xs.length ≤ 3072 ∧ (Jvm.Cond.and given_1 narrow_1).before args s = true
def lw_Q (_ : Array Value) (s : State) (o : Outcome) (t : State) : Prop := o = .returned (some (.int 1)) ∧ Framed s o t [] 600000 7302250
def lw_Z (below : List Frame) (a : Array Value) (s : State) : State → Prop := fun t => ∃ o, t.status = .running ∧ Ended t below o ∧ lw_Q a s o t
/-- the law's own end, with 1 on the stack, nothing written that was there before, its room as the claim has it -/
theorem lw_ret {p : Program} {l : Launch} {e : Env} {s : State} {m : MethodId} {below : List Frame} {meth : Method} {c : Code} {b : Nat} (hx : p.tables.exec = Jvm.exec) (hb : c.code = code) (hr : meth.sig.returnType = ret) (hlocks : meth.locks = false) {pc : Nat} {H : Heap} {ls : Array Slot} (hdg : decode code pc = .ok (.ireturn, 1)) : W p l e room_1 s m #[Value.ref b] below meth c H [] 600000 7302250 (lw_Z below #[Value.ref b] s) (F0 m pc ls [.int 1]) := by
  intro T hT X
  obtain ⟨fs, hret, hrun, hended, hW, hframe⟩ := X.leave (v := some (.int 1)) (hlocks := hlocks) (fun h => by rw [hr] at h; cases h)
  have hmeth' : T.vm.method? m = some meth := X.method'
  refine ⟨T.setFrames fs, ?_, .returned (some (.int 1)), hrun, hended, rfl, ⟨_, rfl⟩, hW, hframe⟩
  jvm_step X.here [X.here.top, hx, hb, hdg, hmeth', hr, ret, narrow_b1]
  (try refine ⟨rfl, ?_⟩); (try refine ⟨rfl, ?_⟩)
  first | (intro acts; rw [hret _ acts rfl rfl rfl]) | rw [hret _ _ rfl rfl rfl]
  exact Steps.refl _
/-- what holds at the law's entry: the machine, the code, the tables' words (any of lw_tbl by 'hts w (by decide +kernel)'), the script of L ints xs at the cell b, what the Statement gives of the start (any of its parts by flat_of_before) -/
def lw_At (p : Program) (s : State) (m : MethodId) (meth : Method) (c : Code) (b L : Nat) (xs : Nat → Int32) : Prop :=
  p.tables.exec = Jvm.exec ∧ c.code = code ∧ meth.sig.returnType = ret ∧ c.maxLocals = 4 ∧ s.vm.findClass R_law = some m.cls ∧ (∀ w ∈ lw_tbl, w.before #[Value.ref b] s = true) ∧ va_X b L xs s s.heap ∧ b < s.heap.size ∧ meth.locks = false ∧ (Jvm.Cond.and given_1 narrow_1).before #[Value.ref b] s = true
theorem dL_law_0 : decode cL_law 0 = .ok (.new 7, 3) := by decide +kernel
theorem dL_law_3 : decode cL_law 3 = .ok (.dup, 1) := by decide +kernel
theorem dL_law_4 : decode cL_law 4 = .ok (.invokespecial 9, 3) := by decide +kernel
theorem dL_law_7 : decode cL_law 7 = .ok (.astore_n 1, 1) := by decide +kernel
theorem dL_law_8 : decode cL_law 8 = .ok (.new 10, 3) := by decide +kernel
theorem dL_law_11 : decode cL_law 11 = .ok (.dup, 1) := by decide +kernel
theorem dL_law_12 : decode cL_law 12 = .ok (.invokespecial 12, 3) := by decide +kernel
theorem dL_law_15 : decode cL_law 15 = .ok (.astore_n 2, 1) := by decide +kernel
theorem dL_law_16 : decode cL_law 16 = .ok (.iconst 0, 1) := by decide +kernel
theorem dL_law_17 : decode cL_law 17 = .ok (.istore_n 3, 1) := by decide +kernel
theorem dL_law_18 : decode cL_law 18 = .ok (.iload_n 3, 1) := by decide +kernel
theorem dL_law_19 : decode cL_law 19 = .ok (.aload_n 0, 1) := by decide +kernel
theorem dL_law_20 : decode cL_law 20 = .ok (.arraylength, 1) := by decide +kernel
theorem dL_law_21 : decode cL_law 21 = .ok (.bipush 6, 2) := by decide +kernel
theorem dL_law_23 : decode cL_law 23 = .ok (.isub, 1) := by decide +kernel
theorem dL_law_24 : decode cL_law 24 = .ok (.if_icmp .gt 1202, 3) := by decide +kernel
theorem dL_law_27 : decode cL_law 27 = .ok (.aload_n 0, 1) := by decide +kernel
theorem dL_law_28 : decode cL_law 28 = .ok (.iload_n 3, 1) := by decide +kernel
theorem dL_law_29 : decode cL_law 29 = .ok (.iaload, 1) := by decide +kernel
theorem dL_law_30 : decode cL_law 30 = .ok (.bipush 31, 2) := by decide +kernel
theorem dL_law_32 : decode cL_law 32 = .ok (.iand, 1) := by decide +kernel
theorem dL_law_33 : decode cL_law 33 = .ok (.tableswitch 1187 0 31 #[143, 156, 219, 268, 331, 344, 357, 390, 413, 436, 469, 512, 555, 598, 631, 664, 707, 740, 763, 776, 809, 852, 885, 928, 981, 1024, 1047, 1071, 1104, 1127, 1150, 1173], 143) := by decide +kernel
theorem dL_law_176 : decode cL_law 176 = .ok (.aload_n 1, 1) := by decide +kernel
theorem dL_law_177 : decode cL_law 177 = .ok (.invokevirtual 13, 3) := by decide +kernel
theorem dL_law_180 : decode cL_law 180 = .ok (.aload_n 2, 1) := by decide +kernel
theorem dL_law_181 : decode cL_law 181 = .ok (.invokevirtual 17, 3) := by decide +kernel
theorem dL_law_184 : decode cL_law 184 = .ok (.if_icmp .eq 1036, 3) := by decide +kernel
theorem dL_law_187 : decode cL_law 187 = .ok (.iconst 0, 1) := by decide +kernel
theorem dL_law_188 : decode cL_law 188 = .ok (.ireturn, 1) := by decide +kernel
theorem dL_law_189 : decode cL_law 189 = .ok (.aload_n 1, 1) := by decide +kernel
theorem dL_law_190 : decode cL_law 190 = .ok (.aload_n 0, 1) := by decide +kernel
theorem dL_law_191 : decode cL_law 191 = .ok (.iload_n 3, 1) := by decide +kernel
theorem dL_law_192 : decode cL_law 192 = .ok (.iconst 1, 1) := by decide +kernel
theorem dL_law_193 : decode cL_law 193 = .ok (.iadd, 1) := by decide +kernel
theorem dL_law_194 : decode cL_law 194 = .ok (.iaload, 1) := by decide +kernel
theorem dL_law_195 : decode cL_law 195 = .ok (.aload_n 0, 1) := by decide +kernel
theorem dL_law_196 : decode cL_law 196 = .ok (.iload_n 3, 1) := by decide +kernel
theorem dL_law_197 : decode cL_law 197 = .ok (.iconst 2, 1) := by decide +kernel
theorem dL_law_198 : decode cL_law 198 = .ok (.iadd, 1) := by decide +kernel
theorem dL_law_199 : decode cL_law 199 = .ok (.iaload, 1) := by decide +kernel
theorem dL_law_200 : decode cL_law 200 = .ok (.aload_n 0, 1) := by decide +kernel
theorem dL_law_201 : decode cL_law 201 = .ok (.iload_n 3, 1) := by decide +kernel
theorem dL_law_202 : decode cL_law 202 = .ok (.iconst 3, 1) := by decide +kernel
theorem dL_law_203 : decode cL_law 203 = .ok (.iadd, 1) := by decide +kernel
theorem dL_law_204 : decode cL_law 204 = .ok (.iaload, 1) := by decide +kernel
theorem dL_law_205 : decode cL_law 205 = .ok (.aload_n 0, 1) := by decide +kernel
theorem dL_law_206 : decode cL_law 206 = .ok (.iload_n 3, 1) := by decide +kernel
theorem dL_law_207 : decode cL_law 207 = .ok (.iconst 4, 1) := by decide +kernel
theorem dL_law_208 : decode cL_law 208 = .ok (.iadd, 1) := by decide +kernel
theorem dL_law_209 : decode cL_law 209 = .ok (.iaload, 1) := by decide +kernel
theorem dL_law_210 : decode cL_law 210 = .ok (.aload_n 0, 1) := by decide +kernel
theorem dL_law_211 : decode cL_law 211 = .ok (.iload_n 3, 1) := by decide +kernel
theorem dL_law_212 : decode cL_law 212 = .ok (.iconst 5, 1) := by decide +kernel
theorem dL_law_213 : decode cL_law 213 = .ok (.iadd, 1) := by decide +kernel
theorem dL_law_214 : decode cL_law 214 = .ok (.iaload, 1) := by decide +kernel
theorem dL_law_215 : decode cL_law 215 = .ok (.invokevirtual 18, 3) := by decide +kernel
theorem dL_law_218 : decode cL_law 218 = .ok (.aload_n 2, 1) := by decide +kernel
theorem dL_law_219 : decode cL_law 219 = .ok (.aload_n 0, 1) := by decide +kernel
theorem dL_law_220 : decode cL_law 220 = .ok (.iload_n 3, 1) := by decide +kernel
theorem dL_law_221 : decode cL_law 221 = .ok (.iconst 1, 1) := by decide +kernel
theorem dL_law_222 : decode cL_law 222 = .ok (.iadd, 1) := by decide +kernel
theorem dL_law_223 : decode cL_law 223 = .ok (.iaload, 1) := by decide +kernel
theorem dL_law_224 : decode cL_law 224 = .ok (.aload_n 0, 1) := by decide +kernel
theorem dL_law_225 : decode cL_law 225 = .ok (.iload_n 3, 1) := by decide +kernel
theorem dL_law_226 : decode cL_law 226 = .ok (.iconst 2, 1) := by decide +kernel
theorem dL_law_227 : decode cL_law 227 = .ok (.iadd, 1) := by decide +kernel
theorem dL_law_228 : decode cL_law 228 = .ok (.iaload, 1) := by decide +kernel
theorem dL_law_229 : decode cL_law 229 = .ok (.aload_n 0, 1) := by decide +kernel
theorem dL_law_230 : decode cL_law 230 = .ok (.iload_n 3, 1) := by decide +kernel
theorem dL_law_231 : decode cL_law 231 = .ok (.iconst 3, 1) := by decide +kernel
theorem dL_law_232 : decode cL_law 232 = .ok (.iadd, 1) := by decide +kernel
theorem dL_law_233 : decode cL_law 233 = .ok (.iaload, 1) := by decide +kernel
theorem dL_law_234 : decode cL_law 234 = .ok (.aload_n 0, 1) := by decide +kernel
theorem dL_law_235 : decode cL_law 235 = .ok (.iload_n 3, 1) := by decide +kernel
theorem dL_law_236 : decode cL_law 236 = .ok (.iconst 4, 1) := by decide +kernel
theorem dL_law_237 : decode cL_law 237 = .ok (.iadd, 1) := by decide +kernel
theorem dL_law_238 : decode cL_law 238 = .ok (.iaload, 1) := by decide +kernel
theorem dL_law_239 : decode cL_law 239 = .ok (.aload_n 0, 1) := by decide +kernel
theorem dL_law_240 : decode cL_law 240 = .ok (.iload_n 3, 1) := by decide +kernel
theorem dL_law_241 : decode cL_law 241 = .ok (.iconst 5, 1) := by decide +kernel
theorem dL_law_242 : decode cL_law 242 = .ok (.iadd, 1) := by decide +kernel
theorem dL_law_243 : decode cL_law 243 = .ok (.iaload, 1) := by decide +kernel
theorem dL_law_244 : decode cL_law 244 = .ok (.invokevirtual 22, 3) := by decide +kernel
theorem dL_law_247 : decode cL_law 247 = .ok (.if_icmp .eq 973, 3) := by decide +kernel
theorem dL_law_250 : decode cL_law 250 = .ok (.iconst 0, 1) := by decide +kernel
theorem dL_law_251 : decode cL_law 251 = .ok (.ireturn, 1) := by decide +kernel
theorem dL_law_252 : decode cL_law 252 = .ok (.aload_n 1, 1) := by decide +kernel
theorem dL_law_253 : decode cL_law 253 = .ok (.aload_n 0, 1) := by decide +kernel
theorem dL_law_254 : decode cL_law 254 = .ok (.iload_n 3, 1) := by decide +kernel
theorem dL_law_255 : decode cL_law 255 = .ok (.iconst 1, 1) := by decide +kernel
theorem dL_law_256 : decode cL_law 256 = .ok (.iadd, 1) := by decide +kernel
theorem dL_law_257 : decode cL_law 257 = .ok (.iaload, 1) := by decide +kernel
theorem dL_law_258 : decode cL_law 258 = .ok (.aload_n 0, 1) := by decide +kernel
theorem dL_law_259 : decode cL_law 259 = .ok (.iload_n 3, 1) := by decide +kernel
theorem dL_law_260 : decode cL_law 260 = .ok (.iconst 2, 1) := by decide +kernel
theorem dL_law_261 : decode cL_law 261 = .ok (.iadd, 1) := by decide +kernel
theorem dL_law_262 : decode cL_law 262 = .ok (.iaload, 1) := by decide +kernel
theorem dL_law_263 : decode cL_law 263 = .ok (.ifCond .eq 7, 3) := by decide +kernel
theorem dL_law_266 : decode cL_law 266 = .ok (.iconst 1, 1) := by decide +kernel
theorem dL_law_267 : decode cL_law 267 = .ok (.goto 4, 3) := by decide +kernel
theorem dL_law_270 : decode cL_law 270 = .ok (.iconst 0, 1) := by decide +kernel
theorem dL_law_271 : decode cL_law 271 = .ok (.invokevirtual 23, 3) := by decide +kernel
theorem dL_law_274 : decode cL_law 274 = .ok (.aload_n 2, 1) := by decide +kernel
theorem dL_law_275 : decode cL_law 275 = .ok (.aload_n 0, 1) := by decide +kernel
theorem dL_law_276 : decode cL_law 276 = .ok (.iload_n 3, 1) := by decide +kernel
theorem dL_law_277 : decode cL_law 277 = .ok (.iconst 1, 1) := by decide +kernel
theorem dL_law_278 : decode cL_law 278 = .ok (.iadd, 1) := by decide +kernel
theorem dL_law_279 : decode cL_law 279 = .ok (.iaload, 1) := by decide +kernel
theorem dL_law_280 : decode cL_law 280 = .ok (.aload_n 0, 1) := by decide +kernel
theorem dL_law_281 : decode cL_law 281 = .ok (.iload_n 3, 1) := by decide +kernel
theorem dL_law_282 : decode cL_law 282 = .ok (.iconst 2, 1) := by decide +kernel
theorem dL_law_283 : decode cL_law 283 = .ok (.iadd, 1) := by decide +kernel
theorem dL_law_284 : decode cL_law 284 = .ok (.iaload, 1) := by decide +kernel
theorem dL_law_285 : decode cL_law 285 = .ok (.ifCond .eq 7, 3) := by decide +kernel
theorem dL_law_288 : decode cL_law 288 = .ok (.iconst 1, 1) := by decide +kernel
theorem dL_law_289 : decode cL_law 289 = .ok (.goto 4, 3) := by decide +kernel
theorem dL_law_292 : decode cL_law 292 = .ok (.iconst 0, 1) := by decide +kernel
theorem dL_law_293 : decode cL_law 293 = .ok (.invokevirtual 27, 3) := by decide +kernel
theorem dL_law_296 : decode cL_law 296 = .ok (.if_icmp .eq 924, 3) := by decide +kernel
theorem dL_law_299 : decode cL_law 299 = .ok (.iconst 0, 1) := by decide +kernel
theorem dL_law_300 : decode cL_law 300 = .ok (.ireturn, 1) := by decide +kernel
theorem dL_law_301 : decode cL_law 301 = .ok (.aload_n 1, 1) := by decide +kernel
theorem dL_law_302 : decode cL_law 302 = .ok (.aload_n 0, 1) := by decide +kernel
theorem dL_law_303 : decode cL_law 303 = .ok (.iload_n 3, 1) := by decide +kernel
theorem dL_law_304 : decode cL_law 304 = .ok (.iconst 1, 1) := by decide +kernel
theorem dL_law_305 : decode cL_law 305 = .ok (.iadd, 1) := by decide +kernel
theorem dL_law_306 : decode cL_law 306 = .ok (.iaload, 1) := by decide +kernel
theorem dL_law_307 : decode cL_law 307 = .ok (.i2l, 1) := by decide +kernel
theorem dL_law_308 : decode cL_law 308 = .ok (.bipush 32, 2) := by decide +kernel
theorem dL_law_310 : decode cL_law 310 = .ok (.lshl, 1) := by decide +kernel
theorem dL_law_311 : decode cL_law 311 = .ok (.aload_n 0, 1) := by decide +kernel
theorem dL_law_312 : decode cL_law 312 = .ok (.iload_n 3, 1) := by decide +kernel
theorem dL_law_313 : decode cL_law 313 = .ok (.iconst 2, 1) := by decide +kernel
theorem dL_law_314 : decode cL_law 314 = .ok (.iadd, 1) := by decide +kernel
theorem dL_law_315 : decode cL_law 315 = .ok (.iaload, 1) := by decide +kernel
theorem dL_law_316 : decode cL_law 316 = .ok (.i2l, 1) := by decide +kernel
theorem dL_law_317 : decode cL_law 317 = .ok (.ldc2_w 28, 3) := by decide +kernel
theorem dL_law_320 : decode cL_law 320 = .ok (.land, 1) := by decide +kernel
theorem dL_law_321 : decode cL_law 321 = .ok (.lor, 1) := by decide +kernel
theorem dL_law_322 : decode cL_law 322 = .ok (.aload_n 0, 1) := by decide +kernel
theorem dL_law_323 : decode cL_law 323 = .ok (.iload_n 3, 1) := by decide +kernel
theorem dL_law_324 : decode cL_law 324 = .ok (.iconst 3, 1) := by decide +kernel
theorem dL_law_325 : decode cL_law 325 = .ok (.iadd, 1) := by decide +kernel
theorem dL_law_326 : decode cL_law 326 = .ok (.iaload, 1) := by decide +kernel
theorem dL_law_327 : decode cL_law 327 = .ok (.invokevirtual 30, 3) := by decide +kernel
theorem dL_law_330 : decode cL_law 330 = .ok (.aload_n 2, 1) := by decide +kernel
theorem dL_law_331 : decode cL_law 331 = .ok (.aload_n 0, 1) := by decide +kernel
theorem dL_law_332 : decode cL_law 332 = .ok (.iload_n 3, 1) := by decide +kernel
theorem dL_law_333 : decode cL_law 333 = .ok (.iconst 1, 1) := by decide +kernel
theorem dL_law_334 : decode cL_law 334 = .ok (.iadd, 1) := by decide +kernel
theorem dL_law_335 : decode cL_law 335 = .ok (.iaload, 1) := by decide +kernel
theorem dL_law_336 : decode cL_law 336 = .ok (.i2l, 1) := by decide +kernel
theorem dL_law_337 : decode cL_law 337 = .ok (.bipush 32, 2) := by decide +kernel
theorem dL_law_339 : decode cL_law 339 = .ok (.lshl, 1) := by decide +kernel
theorem dL_law_340 : decode cL_law 340 = .ok (.aload_n 0, 1) := by decide +kernel
theorem dL_law_341 : decode cL_law 341 = .ok (.iload_n 3, 1) := by decide +kernel
theorem dL_law_342 : decode cL_law 342 = .ok (.iconst 2, 1) := by decide +kernel
theorem dL_law_343 : decode cL_law 343 = .ok (.iadd, 1) := by decide +kernel
theorem dL_law_344 : decode cL_law 344 = .ok (.iaload, 1) := by decide +kernel
theorem dL_law_345 : decode cL_law 345 = .ok (.i2l, 1) := by decide +kernel
theorem dL_law_346 : decode cL_law 346 = .ok (.ldc2_w 28, 3) := by decide +kernel
theorem dL_law_349 : decode cL_law 349 = .ok (.land, 1) := by decide +kernel
theorem dL_law_350 : decode cL_law 350 = .ok (.lor, 1) := by decide +kernel
theorem dL_law_351 : decode cL_law 351 = .ok (.aload_n 0, 1) := by decide +kernel
theorem dL_law_352 : decode cL_law 352 = .ok (.iload_n 3, 1) := by decide +kernel
theorem dL_law_353 : decode cL_law 353 = .ok (.iconst 3, 1) := by decide +kernel
theorem dL_law_354 : decode cL_law 354 = .ok (.iadd, 1) := by decide +kernel
theorem dL_law_355 : decode cL_law 355 = .ok (.iaload, 1) := by decide +kernel
theorem dL_law_356 : decode cL_law 356 = .ok (.invokevirtual 34, 3) := by decide +kernel
theorem dL_law_359 : decode cL_law 359 = .ok (.if_icmp .eq 861, 3) := by decide +kernel
theorem dL_law_362 : decode cL_law 362 = .ok (.iconst 0, 1) := by decide +kernel
theorem dL_law_363 : decode cL_law 363 = .ok (.ireturn, 1) := by decide +kernel
theorem dL_law_364 : decode cL_law 364 = .ok (.aload_n 1, 1) := by decide +kernel
theorem dL_law_365 : decode cL_law 365 = .ok (.invokevirtual 35, 3) := by decide +kernel
theorem dL_law_368 : decode cL_law 368 = .ok (.aload_n 2, 1) := by decide +kernel
theorem dL_law_369 : decode cL_law 369 = .ok (.invokevirtual 38, 3) := by decide +kernel
theorem dL_law_372 : decode cL_law 372 = .ok (.if_icmp .eq 848, 3) := by decide +kernel
theorem dL_law_375 : decode cL_law 375 = .ok (.iconst 0, 1) := by decide +kernel
theorem dL_law_376 : decode cL_law 376 = .ok (.ireturn, 1) := by decide +kernel
theorem dL_law_377 : decode cL_law 377 = .ok (.aload_n 1, 1) := by decide +kernel
theorem dL_law_378 : decode cL_law 378 = .ok (.invokevirtual 39, 3) := by decide +kernel
theorem dL_law_381 : decode cL_law 381 = .ok (.aload_n 2, 1) := by decide +kernel
theorem dL_law_382 : decode cL_law 382 = .ok (.invokevirtual 42, 3) := by decide +kernel
theorem dL_law_385 : decode cL_law 385 = .ok (.if_icmp .eq 835, 3) := by decide +kernel
theorem dL_law_388 : decode cL_law 388 = .ok (.iconst 0, 1) := by decide +kernel
theorem dL_law_389 : decode cL_law 389 = .ok (.ireturn, 1) := by decide +kernel
theorem dL_law_390 : decode cL_law 390 = .ok (.aload_n 1, 1) := by decide +kernel
theorem dL_law_391 : decode cL_law 391 = .ok (.aload_n 0, 1) := by decide +kernel
theorem dL_law_392 : decode cL_law 392 = .ok (.iload_n 3, 1) := by decide +kernel
theorem dL_law_393 : decode cL_law 393 = .ok (.iconst 1, 1) := by decide +kernel
theorem dL_law_394 : decode cL_law 394 = .ok (.iadd, 1) := by decide +kernel
theorem dL_law_395 : decode cL_law 395 = .ok (.iaload, 1) := by decide +kernel
theorem dL_law_396 : decode cL_law 396 = .ok (.aload_n 0, 1) := by decide +kernel
theorem dL_law_397 : decode cL_law 397 = .ok (.iload_n 3, 1) := by decide +kernel
theorem dL_law_398 : decode cL_law 398 = .ok (.iconst 2, 1) := by decide +kernel
theorem dL_law_399 : decode cL_law 399 = .ok (.iadd, 1) := by decide +kernel
theorem dL_law_400 : decode cL_law 400 = .ok (.iaload, 1) := by decide +kernel
theorem dL_law_401 : decode cL_law 401 = .ok (.invokevirtual 43, 3) := by decide +kernel
theorem dL_law_404 : decode cL_law 404 = .ok (.aload_n 2, 1) := by decide +kernel
theorem dL_law_405 : decode cL_law 405 = .ok (.aload_n 0, 1) := by decide +kernel
theorem dL_law_406 : decode cL_law 406 = .ok (.iload_n 3, 1) := by decide +kernel
theorem dL_law_407 : decode cL_law 407 = .ok (.iconst 1, 1) := by decide +kernel
theorem dL_law_408 : decode cL_law 408 = .ok (.iadd, 1) := by decide +kernel
theorem dL_law_409 : decode cL_law 409 = .ok (.iaload, 1) := by decide +kernel
theorem dL_law_410 : decode cL_law 410 = .ok (.aload_n 0, 1) := by decide +kernel
theorem dL_law_411 : decode cL_law 411 = .ok (.iload_n 3, 1) := by decide +kernel
theorem dL_law_412 : decode cL_law 412 = .ok (.iconst 2, 1) := by decide +kernel
theorem dL_law_413 : decode cL_law 413 = .ok (.iadd, 1) := by decide +kernel
theorem dL_law_414 : decode cL_law 414 = .ok (.iaload, 1) := by decide +kernel
theorem dL_law_415 : decode cL_law 415 = .ok (.invokevirtual 47, 3) := by decide +kernel
theorem dL_law_418 : decode cL_law 418 = .ok (.if_icmp .eq 802, 3) := by decide +kernel
theorem dL_law_421 : decode cL_law 421 = .ok (.iconst 0, 1) := by decide +kernel
theorem dL_law_422 : decode cL_law 422 = .ok (.ireturn, 1) := by decide +kernel
theorem dL_law_423 : decode cL_law 423 = .ok (.aload_n 1, 1) := by decide +kernel
theorem dL_law_424 : decode cL_law 424 = .ok (.aload_n 0, 1) := by decide +kernel
theorem dL_law_425 : decode cL_law 425 = .ok (.iload_n 3, 1) := by decide +kernel
theorem dL_law_426 : decode cL_law 426 = .ok (.iconst 1, 1) := by decide +kernel
theorem dL_law_427 : decode cL_law 427 = .ok (.iadd, 1) := by decide +kernel
theorem dL_law_428 : decode cL_law 428 = .ok (.iaload, 1) := by decide +kernel
theorem dL_law_429 : decode cL_law 429 = .ok (.invokevirtual 48, 3) := by decide +kernel
theorem dL_law_432 : decode cL_law 432 = .ok (.aload_n 2, 1) := by decide +kernel
theorem dL_law_433 : decode cL_law 433 = .ok (.aload_n 0, 1) := by decide +kernel
theorem dL_law_434 : decode cL_law 434 = .ok (.iload_n 3, 1) := by decide +kernel
theorem dL_law_435 : decode cL_law 435 = .ok (.iconst 1, 1) := by decide +kernel
theorem dL_law_436 : decode cL_law 436 = .ok (.iadd, 1) := by decide +kernel
theorem dL_law_437 : decode cL_law 437 = .ok (.iaload, 1) := by decide +kernel
theorem dL_law_438 : decode cL_law 438 = .ok (.invokevirtual 52, 3) := by decide +kernel
theorem dL_law_441 : decode cL_law 441 = .ok (.if_icmp .eq 779, 3) := by decide +kernel
theorem dL_law_444 : decode cL_law 444 = .ok (.iconst 0, 1) := by decide +kernel
theorem dL_law_445 : decode cL_law 445 = .ok (.ireturn, 1) := by decide +kernel
theorem dL_law_446 : decode cL_law 446 = .ok (.aload_n 1, 1) := by decide +kernel
theorem dL_law_447 : decode cL_law 447 = .ok (.aload_n 0, 1) := by decide +kernel
theorem dL_law_448 : decode cL_law 448 = .ok (.iload_n 3, 1) := by decide +kernel
theorem dL_law_449 : decode cL_law 449 = .ok (.iconst 1, 1) := by decide +kernel
theorem dL_law_450 : decode cL_law 450 = .ok (.iadd, 1) := by decide +kernel
theorem dL_law_451 : decode cL_law 451 = .ok (.iaload, 1) := by decide +kernel
theorem dL_law_452 : decode cL_law 452 = .ok (.invokevirtual 53, 3) := by decide +kernel
theorem dL_law_455 : decode cL_law 455 = .ok (.aload_n 2, 1) := by decide +kernel
theorem dL_law_456 : decode cL_law 456 = .ok (.aload_n 0, 1) := by decide +kernel
theorem dL_law_457 : decode cL_law 457 = .ok (.iload_n 3, 1) := by decide +kernel
theorem dL_law_458 : decode cL_law 458 = .ok (.iconst 1, 1) := by decide +kernel
theorem dL_law_459 : decode cL_law 459 = .ok (.iadd, 1) := by decide +kernel
theorem dL_law_460 : decode cL_law 460 = .ok (.iaload, 1) := by decide +kernel
theorem dL_law_461 : decode cL_law 461 = .ok (.invokevirtual 56, 3) := by decide +kernel
theorem dL_law_464 : decode cL_law 464 = .ok (.if_icmp .eq 756, 3) := by decide +kernel
theorem dL_law_467 : decode cL_law 467 = .ok (.iconst 0, 1) := by decide +kernel
theorem dL_law_468 : decode cL_law 468 = .ok (.ireturn, 1) := by decide +kernel
theorem dL_law_469 : decode cL_law 469 = .ok (.aload_n 1, 1) := by decide +kernel
theorem dL_law_470 : decode cL_law 470 = .ok (.aload_n 0, 1) := by decide +kernel
theorem dL_law_471 : decode cL_law 471 = .ok (.iload_n 3, 1) := by decide +kernel
theorem dL_law_472 : decode cL_law 472 = .ok (.iconst 1, 1) := by decide +kernel
theorem dL_law_473 : decode cL_law 473 = .ok (.iadd, 1) := by decide +kernel
theorem dL_law_474 : decode cL_law 474 = .ok (.iaload, 1) := by decide +kernel
theorem dL_law_475 : decode cL_law 475 = .ok (.aload_n 0, 1) := by decide +kernel
theorem dL_law_476 : decode cL_law 476 = .ok (.iload_n 3, 1) := by decide +kernel
theorem dL_law_477 : decode cL_law 477 = .ok (.iconst 2, 1) := by decide +kernel
theorem dL_law_478 : decode cL_law 478 = .ok (.iadd, 1) := by decide +kernel
theorem dL_law_479 : decode cL_law 479 = .ok (.iaload, 1) := by decide +kernel
theorem dL_law_480 : decode cL_law 480 = .ok (.invokevirtual 57, 3) := by decide +kernel
theorem dL_law_483 : decode cL_law 483 = .ok (.aload_n 2, 1) := by decide +kernel
theorem dL_law_484 : decode cL_law 484 = .ok (.aload_n 0, 1) := by decide +kernel
theorem dL_law_485 : decode cL_law 485 = .ok (.iload_n 3, 1) := by decide +kernel
theorem dL_law_486 : decode cL_law 486 = .ok (.iconst 1, 1) := by decide +kernel
theorem dL_law_487 : decode cL_law 487 = .ok (.iadd, 1) := by decide +kernel
theorem dL_law_488 : decode cL_law 488 = .ok (.iaload, 1) := by decide +kernel
theorem dL_law_489 : decode cL_law 489 = .ok (.aload_n 0, 1) := by decide +kernel
theorem dL_law_490 : decode cL_law 490 = .ok (.iload_n 3, 1) := by decide +kernel
theorem dL_law_491 : decode cL_law 491 = .ok (.iconst 2, 1) := by decide +kernel
theorem dL_law_492 : decode cL_law 492 = .ok (.iadd, 1) := by decide +kernel
theorem dL_law_493 : decode cL_law 493 = .ok (.iaload, 1) := by decide +kernel
theorem dL_law_494 : decode cL_law 494 = .ok (.invokevirtual 60, 3) := by decide +kernel
theorem dL_law_497 : decode cL_law 497 = .ok (.if_icmp .eq 723, 3) := by decide +kernel
theorem dL_law_500 : decode cL_law 500 = .ok (.iconst 0, 1) := by decide +kernel
theorem dL_law_501 : decode cL_law 501 = .ok (.ireturn, 1) := by decide +kernel
theorem dL_law_502 : decode cL_law 502 = .ok (.aload_n 1, 1) := by decide +kernel
theorem dL_law_503 : decode cL_law 503 = .ok (.aload_n 0, 1) := by decide +kernel
theorem dL_law_504 : decode cL_law 504 = .ok (.iload_n 3, 1) := by decide +kernel
theorem dL_law_505 : decode cL_law 505 = .ok (.iconst 1, 1) := by decide +kernel
theorem dL_law_506 : decode cL_law 506 = .ok (.iadd, 1) := by decide +kernel
theorem dL_law_507 : decode cL_law 507 = .ok (.iaload, 1) := by decide +kernel
theorem dL_law_508 : decode cL_law 508 = .ok (.aload_n 0, 1) := by decide +kernel
theorem dL_law_509 : decode cL_law 509 = .ok (.iload_n 3, 1) := by decide +kernel
theorem dL_law_510 : decode cL_law 510 = .ok (.iconst 2, 1) := by decide +kernel
theorem dL_law_511 : decode cL_law 511 = .ok (.iadd, 1) := by decide +kernel
theorem dL_law_512 : decode cL_law 512 = .ok (.iaload, 1) := by decide +kernel
theorem dL_law_513 : decode cL_law 513 = .ok (.aload_n 0, 1) := by decide +kernel
theorem dL_law_514 : decode cL_law 514 = .ok (.iload_n 3, 1) := by decide +kernel
theorem dL_law_515 : decode cL_law 515 = .ok (.iconst 3, 1) := by decide +kernel
theorem dL_law_516 : decode cL_law 516 = .ok (.iadd, 1) := by decide +kernel
theorem dL_law_517 : decode cL_law 517 = .ok (.iaload, 1) := by decide +kernel
theorem dL_law_518 : decode cL_law 518 = .ok (.invokevirtual 61, 3) := by decide +kernel
theorem dL_law_521 : decode cL_law 521 = .ok (.aload_n 2, 1) := by decide +kernel
theorem dL_law_522 : decode cL_law 522 = .ok (.aload_n 0, 1) := by decide +kernel
theorem dL_law_523 : decode cL_law 523 = .ok (.iload_n 3, 1) := by decide +kernel
theorem dL_law_524 : decode cL_law 524 = .ok (.iconst 1, 1) := by decide +kernel
theorem dL_law_525 : decode cL_law 525 = .ok (.iadd, 1) := by decide +kernel
theorem dL_law_526 : decode cL_law 526 = .ok (.iaload, 1) := by decide +kernel
theorem dL_law_527 : decode cL_law 527 = .ok (.aload_n 0, 1) := by decide +kernel
theorem dL_law_528 : decode cL_law 528 = .ok (.iload_n 3, 1) := by decide +kernel
theorem dL_law_529 : decode cL_law 529 = .ok (.iconst 2, 1) := by decide +kernel
theorem dL_law_530 : decode cL_law 530 = .ok (.iadd, 1) := by decide +kernel
theorem dL_law_531 : decode cL_law 531 = .ok (.iaload, 1) := by decide +kernel
theorem dL_law_532 : decode cL_law 532 = .ok (.aload_n 0, 1) := by decide +kernel
theorem dL_law_533 : decode cL_law 533 = .ok (.iload_n 3, 1) := by decide +kernel
theorem dL_law_534 : decode cL_law 534 = .ok (.iconst 3, 1) := by decide +kernel
theorem dL_law_535 : decode cL_law 535 = .ok (.iadd, 1) := by decide +kernel
theorem dL_law_536 : decode cL_law 536 = .ok (.iaload, 1) := by decide +kernel
theorem dL_law_537 : decode cL_law 537 = .ok (.invokevirtual 65, 3) := by decide +kernel
theorem dL_law_540 : decode cL_law 540 = .ok (.if_icmp .eq 680, 3) := by decide +kernel
theorem dL_law_543 : decode cL_law 543 = .ok (.iconst 0, 1) := by decide +kernel
theorem dL_law_544 : decode cL_law 544 = .ok (.ireturn, 1) := by decide +kernel
theorem dL_law_545 : decode cL_law 545 = .ok (.aload_n 1, 1) := by decide +kernel
theorem dL_law_546 : decode cL_law 546 = .ok (.aload_n 0, 1) := by decide +kernel
theorem dL_law_547 : decode cL_law 547 = .ok (.iload_n 3, 1) := by decide +kernel
theorem dL_law_548 : decode cL_law 548 = .ok (.iconst 1, 1) := by decide +kernel
theorem dL_law_549 : decode cL_law 549 = .ok (.iadd, 1) := by decide +kernel
theorem dL_law_550 : decode cL_law 550 = .ok (.iaload, 1) := by decide +kernel
theorem dL_law_551 : decode cL_law 551 = .ok (.aload_n 0, 1) := by decide +kernel
theorem dL_law_552 : decode cL_law 552 = .ok (.iload_n 3, 1) := by decide +kernel
theorem dL_law_553 : decode cL_law 553 = .ok (.iconst 2, 1) := by decide +kernel
theorem dL_law_554 : decode cL_law 554 = .ok (.iadd, 1) := by decide +kernel
theorem dL_law_555 : decode cL_law 555 = .ok (.iaload, 1) := by decide +kernel
theorem dL_law_556 : decode cL_law 556 = .ok (.aload_n 0, 1) := by decide +kernel
theorem dL_law_557 : decode cL_law 557 = .ok (.iload_n 3, 1) := by decide +kernel
theorem dL_law_558 : decode cL_law 558 = .ok (.iconst 3, 1) := by decide +kernel
theorem dL_law_559 : decode cL_law 559 = .ok (.iadd, 1) := by decide +kernel
theorem dL_law_560 : decode cL_law 560 = .ok (.iaload, 1) := by decide +kernel
theorem dL_law_561 : decode cL_law 561 = .ok (.invokevirtual 66, 3) := by decide +kernel
theorem dL_law_564 : decode cL_law 564 = .ok (.aload_n 2, 1) := by decide +kernel
theorem dL_law_565 : decode cL_law 565 = .ok (.aload_n 0, 1) := by decide +kernel
theorem dL_law_566 : decode cL_law 566 = .ok (.iload_n 3, 1) := by decide +kernel
theorem dL_law_567 : decode cL_law 567 = .ok (.iconst 1, 1) := by decide +kernel
theorem dL_law_568 : decode cL_law 568 = .ok (.iadd, 1) := by decide +kernel
theorem dL_law_569 : decode cL_law 569 = .ok (.iaload, 1) := by decide +kernel
theorem dL_law_570 : decode cL_law 570 = .ok (.aload_n 0, 1) := by decide +kernel
theorem dL_law_571 : decode cL_law 571 = .ok (.iload_n 3, 1) := by decide +kernel
theorem dL_law_572 : decode cL_law 572 = .ok (.iconst 2, 1) := by decide +kernel
theorem dL_law_573 : decode cL_law 573 = .ok (.iadd, 1) := by decide +kernel
theorem dL_law_574 : decode cL_law 574 = .ok (.iaload, 1) := by decide +kernel
theorem dL_law_575 : decode cL_law 575 = .ok (.aload_n 0, 1) := by decide +kernel
theorem dL_law_576 : decode cL_law 576 = .ok (.iload_n 3, 1) := by decide +kernel
theorem dL_law_577 : decode cL_law 577 = .ok (.iconst 3, 1) := by decide +kernel
theorem dL_law_578 : decode cL_law 578 = .ok (.iadd, 1) := by decide +kernel
theorem dL_law_579 : decode cL_law 579 = .ok (.iaload, 1) := by decide +kernel
theorem dL_law_580 : decode cL_law 580 = .ok (.invokevirtual 69, 3) := by decide +kernel
theorem dL_law_583 : decode cL_law 583 = .ok (.if_icmp .eq 637, 3) := by decide +kernel
theorem dL_law_586 : decode cL_law 586 = .ok (.iconst 0, 1) := by decide +kernel
theorem dL_law_587 : decode cL_law 587 = .ok (.ireturn, 1) := by decide +kernel
theorem dL_law_588 : decode cL_law 588 = .ok (.aload_n 1, 1) := by decide +kernel
theorem dL_law_589 : decode cL_law 589 = .ok (.aload_n 0, 1) := by decide +kernel
theorem dL_law_590 : decode cL_law 590 = .ok (.iload_n 3, 1) := by decide +kernel
theorem dL_law_591 : decode cL_law 591 = .ok (.iconst 1, 1) := by decide +kernel
theorem dL_law_592 : decode cL_law 592 = .ok (.iadd, 1) := by decide +kernel
theorem dL_law_593 : decode cL_law 593 = .ok (.iaload, 1) := by decide +kernel
theorem dL_law_594 : decode cL_law 594 = .ok (.aload_n 0, 1) := by decide +kernel
theorem dL_law_595 : decode cL_law 595 = .ok (.iload_n 3, 1) := by decide +kernel
theorem dL_law_596 : decode cL_law 596 = .ok (.iconst 2, 1) := by decide +kernel
theorem dL_law_597 : decode cL_law 597 = .ok (.iadd, 1) := by decide +kernel
theorem dL_law_598 : decode cL_law 598 = .ok (.iaload, 1) := by decide +kernel
theorem dL_law_599 : decode cL_law 599 = .ok (.aload_n 0, 1) := by decide +kernel
theorem dL_law_600 : decode cL_law 600 = .ok (.iload_n 3, 1) := by decide +kernel
theorem dL_law_601 : decode cL_law 601 = .ok (.iconst 3, 1) := by decide +kernel
theorem dL_law_602 : decode cL_law 602 = .ok (.iadd, 1) := by decide +kernel
theorem dL_law_603 : decode cL_law 603 = .ok (.iaload, 1) := by decide +kernel
theorem dL_law_604 : decode cL_law 604 = .ok (.invokevirtual 70, 3) := by decide +kernel
theorem dL_law_607 : decode cL_law 607 = .ok (.aload_n 2, 1) := by decide +kernel
theorem dL_law_608 : decode cL_law 608 = .ok (.aload_n 0, 1) := by decide +kernel
theorem dL_law_609 : decode cL_law 609 = .ok (.iload_n 3, 1) := by decide +kernel
theorem dL_law_610 : decode cL_law 610 = .ok (.iconst 1, 1) := by decide +kernel
theorem dL_law_611 : decode cL_law 611 = .ok (.iadd, 1) := by decide +kernel
theorem dL_law_612 : decode cL_law 612 = .ok (.iaload, 1) := by decide +kernel
theorem dL_law_613 : decode cL_law 613 = .ok (.aload_n 0, 1) := by decide +kernel
theorem dL_law_614 : decode cL_law 614 = .ok (.iload_n 3, 1) := by decide +kernel
theorem dL_law_615 : decode cL_law 615 = .ok (.iconst 2, 1) := by decide +kernel
theorem dL_law_616 : decode cL_law 616 = .ok (.iadd, 1) := by decide +kernel
theorem dL_law_617 : decode cL_law 617 = .ok (.iaload, 1) := by decide +kernel
theorem dL_law_618 : decode cL_law 618 = .ok (.aload_n 0, 1) := by decide +kernel
theorem dL_law_619 : decode cL_law 619 = .ok (.iload_n 3, 1) := by decide +kernel
theorem dL_law_620 : decode cL_law 620 = .ok (.iconst 3, 1) := by decide +kernel
theorem dL_law_621 : decode cL_law 621 = .ok (.iadd, 1) := by decide +kernel
theorem dL_law_622 : decode cL_law 622 = .ok (.iaload, 1) := by decide +kernel
theorem dL_law_623 : decode cL_law 623 = .ok (.invokevirtual 73, 3) := by decide +kernel
theorem dL_law_626 : decode cL_law 626 = .ok (.if_icmp .eq 594, 3) := by decide +kernel
theorem dL_law_629 : decode cL_law 629 = .ok (.iconst 0, 1) := by decide +kernel
theorem dL_law_630 : decode cL_law 630 = .ok (.ireturn, 1) := by decide +kernel
theorem dL_law_631 : decode cL_law 631 = .ok (.aload_n 1, 1) := by decide +kernel
theorem dL_law_632 : decode cL_law 632 = .ok (.aload_n 0, 1) := by decide +kernel
theorem dL_law_633 : decode cL_law 633 = .ok (.iload_n 3, 1) := by decide +kernel
theorem dL_law_634 : decode cL_law 634 = .ok (.iconst 1, 1) := by decide +kernel
theorem dL_law_635 : decode cL_law 635 = .ok (.iadd, 1) := by decide +kernel
theorem dL_law_636 : decode cL_law 636 = .ok (.iaload, 1) := by decide +kernel
theorem dL_law_637 : decode cL_law 637 = .ok (.aload_n 0, 1) := by decide +kernel
theorem dL_law_638 : decode cL_law 638 = .ok (.iload_n 3, 1) := by decide +kernel
theorem dL_law_639 : decode cL_law 639 = .ok (.iconst 2, 1) := by decide +kernel
theorem dL_law_640 : decode cL_law 640 = .ok (.iadd, 1) := by decide +kernel
theorem dL_law_641 : decode cL_law 641 = .ok (.iaload, 1) := by decide +kernel
theorem dL_law_642 : decode cL_law 642 = .ok (.invokevirtual 74, 3) := by decide +kernel
theorem dL_law_645 : decode cL_law 645 = .ok (.aload_n 2, 1) := by decide +kernel
theorem dL_law_646 : decode cL_law 646 = .ok (.aload_n 0, 1) := by decide +kernel
theorem dL_law_647 : decode cL_law 647 = .ok (.iload_n 3, 1) := by decide +kernel
theorem dL_law_648 : decode cL_law 648 = .ok (.iconst 1, 1) := by decide +kernel
theorem dL_law_649 : decode cL_law 649 = .ok (.iadd, 1) := by decide +kernel
theorem dL_law_650 : decode cL_law 650 = .ok (.iaload, 1) := by decide +kernel
theorem dL_law_651 : decode cL_law 651 = .ok (.aload_n 0, 1) := by decide +kernel
theorem dL_law_652 : decode cL_law 652 = .ok (.iload_n 3, 1) := by decide +kernel
theorem dL_law_653 : decode cL_law 653 = .ok (.iconst 2, 1) := by decide +kernel
theorem dL_law_654 : decode cL_law 654 = .ok (.iadd, 1) := by decide +kernel
theorem dL_law_655 : decode cL_law 655 = .ok (.iaload, 1) := by decide +kernel
theorem dL_law_656 : decode cL_law 656 = .ok (.invokevirtual 77, 3) := by decide +kernel
theorem dL_law_659 : decode cL_law 659 = .ok (.if_icmp .eq 561, 3) := by decide +kernel
theorem dL_law_662 : decode cL_law 662 = .ok (.iconst 0, 1) := by decide +kernel
theorem dL_law_663 : decode cL_law 663 = .ok (.ireturn, 1) := by decide +kernel
theorem dL_law_664 : decode cL_law 664 = .ok (.aload_n 1, 1) := by decide +kernel
theorem dL_law_665 : decode cL_law 665 = .ok (.aload_n 0, 1) := by decide +kernel
theorem dL_law_666 : decode cL_law 666 = .ok (.iload_n 3, 1) := by decide +kernel
theorem dL_law_667 : decode cL_law 667 = .ok (.iconst 1, 1) := by decide +kernel
theorem dL_law_668 : decode cL_law 668 = .ok (.iadd, 1) := by decide +kernel
theorem dL_law_669 : decode cL_law 669 = .ok (.iaload, 1) := by decide +kernel
theorem dL_law_670 : decode cL_law 670 = .ok (.aload_n 0, 1) := by decide +kernel
theorem dL_law_671 : decode cL_law 671 = .ok (.iload_n 3, 1) := by decide +kernel
theorem dL_law_672 : decode cL_law 672 = .ok (.iconst 2, 1) := by decide +kernel
theorem dL_law_673 : decode cL_law 673 = .ok (.iadd, 1) := by decide +kernel
theorem dL_law_674 : decode cL_law 674 = .ok (.iaload, 1) := by decide +kernel
theorem dL_law_675 : decode cL_law 675 = .ok (.invokevirtual 78, 3) := by decide +kernel
theorem dL_law_678 : decode cL_law 678 = .ok (.aload_n 2, 1) := by decide +kernel
theorem dL_law_679 : decode cL_law 679 = .ok (.aload_n 0, 1) := by decide +kernel
theorem dL_law_680 : decode cL_law 680 = .ok (.iload_n 3, 1) := by decide +kernel
theorem dL_law_681 : decode cL_law 681 = .ok (.iconst 1, 1) := by decide +kernel
theorem dL_law_682 : decode cL_law 682 = .ok (.iadd, 1) := by decide +kernel
theorem dL_law_683 : decode cL_law 683 = .ok (.iaload, 1) := by decide +kernel
theorem dL_law_684 : decode cL_law 684 = .ok (.aload_n 0, 1) := by decide +kernel
theorem dL_law_685 : decode cL_law 685 = .ok (.iload_n 3, 1) := by decide +kernel
theorem dL_law_686 : decode cL_law 686 = .ok (.iconst 2, 1) := by decide +kernel
theorem dL_law_687 : decode cL_law 687 = .ok (.iadd, 1) := by decide +kernel
theorem dL_law_688 : decode cL_law 688 = .ok (.iaload, 1) := by decide +kernel
theorem dL_law_689 : decode cL_law 689 = .ok (.invokevirtual 81, 3) := by decide +kernel
theorem dL_law_692 : decode cL_law 692 = .ok (.if_icmp .eq 528, 3) := by decide +kernel
theorem dL_law_695 : decode cL_law 695 = .ok (.iconst 0, 1) := by decide +kernel
theorem dL_law_696 : decode cL_law 696 = .ok (.ireturn, 1) := by decide +kernel
theorem dL_law_697 : decode cL_law 697 = .ok (.aload_n 1, 1) := by decide +kernel
theorem dL_law_698 : decode cL_law 698 = .ok (.aload_n 0, 1) := by decide +kernel
theorem dL_law_699 : decode cL_law 699 = .ok (.iload_n 3, 1) := by decide +kernel
theorem dL_law_700 : decode cL_law 700 = .ok (.iconst 1, 1) := by decide +kernel
theorem dL_law_701 : decode cL_law 701 = .ok (.iadd, 1) := by decide +kernel
theorem dL_law_702 : decode cL_law 702 = .ok (.iaload, 1) := by decide +kernel
theorem dL_law_703 : decode cL_law 703 = .ok (.aload_n 0, 1) := by decide +kernel
theorem dL_law_704 : decode cL_law 704 = .ok (.iload_n 3, 1) := by decide +kernel
theorem dL_law_705 : decode cL_law 705 = .ok (.iconst 2, 1) := by decide +kernel
theorem dL_law_706 : decode cL_law 706 = .ok (.iadd, 1) := by decide +kernel
theorem dL_law_707 : decode cL_law 707 = .ok (.iaload, 1) := by decide +kernel
theorem dL_law_708 : decode cL_law 708 = .ok (.aload_n 0, 1) := by decide +kernel
theorem dL_law_709 : decode cL_law 709 = .ok (.iload_n 3, 1) := by decide +kernel
theorem dL_law_710 : decode cL_law 710 = .ok (.iconst 3, 1) := by decide +kernel
theorem dL_law_711 : decode cL_law 711 = .ok (.iadd, 1) := by decide +kernel
theorem dL_law_712 : decode cL_law 712 = .ok (.iaload, 1) := by decide +kernel
theorem dL_law_713 : decode cL_law 713 = .ok (.invokevirtual 82, 3) := by decide +kernel
theorem dL_law_716 : decode cL_law 716 = .ok (.aload_n 2, 1) := by decide +kernel
theorem dL_law_717 : decode cL_law 717 = .ok (.aload_n 0, 1) := by decide +kernel
theorem dL_law_718 : decode cL_law 718 = .ok (.iload_n 3, 1) := by decide +kernel
theorem dL_law_719 : decode cL_law 719 = .ok (.iconst 1, 1) := by decide +kernel
theorem dL_law_720 : decode cL_law 720 = .ok (.iadd, 1) := by decide +kernel
theorem dL_law_721 : decode cL_law 721 = .ok (.iaload, 1) := by decide +kernel
theorem dL_law_722 : decode cL_law 722 = .ok (.aload_n 0, 1) := by decide +kernel
theorem dL_law_723 : decode cL_law 723 = .ok (.iload_n 3, 1) := by decide +kernel
theorem dL_law_724 : decode cL_law 724 = .ok (.iconst 2, 1) := by decide +kernel
theorem dL_law_725 : decode cL_law 725 = .ok (.iadd, 1) := by decide +kernel
theorem dL_law_726 : decode cL_law 726 = .ok (.iaload, 1) := by decide +kernel
theorem dL_law_727 : decode cL_law 727 = .ok (.aload_n 0, 1) := by decide +kernel
theorem dL_law_728 : decode cL_law 728 = .ok (.iload_n 3, 1) := by decide +kernel
theorem dL_law_729 : decode cL_law 729 = .ok (.iconst 3, 1) := by decide +kernel
theorem dL_law_730 : decode cL_law 730 = .ok (.iadd, 1) := by decide +kernel
theorem dL_law_731 : decode cL_law 731 = .ok (.iaload, 1) := by decide +kernel
theorem dL_law_732 : decode cL_law 732 = .ok (.invokevirtual 85, 3) := by decide +kernel
theorem dL_law_735 : decode cL_law 735 = .ok (.if_icmp .eq 485, 3) := by decide +kernel
theorem dL_law_738 : decode cL_law 738 = .ok (.iconst 0, 1) := by decide +kernel
theorem dL_law_739 : decode cL_law 739 = .ok (.ireturn, 1) := by decide +kernel
theorem dL_law_740 : decode cL_law 740 = .ok (.aload_n 1, 1) := by decide +kernel
theorem dL_law_741 : decode cL_law 741 = .ok (.aload_n 0, 1) := by decide +kernel
theorem dL_law_742 : decode cL_law 742 = .ok (.iload_n 3, 1) := by decide +kernel
theorem dL_law_743 : decode cL_law 743 = .ok (.iconst 1, 1) := by decide +kernel
theorem dL_law_744 : decode cL_law 744 = .ok (.iadd, 1) := by decide +kernel
theorem dL_law_745 : decode cL_law 745 = .ok (.iaload, 1) := by decide +kernel
theorem dL_law_746 : decode cL_law 746 = .ok (.aload_n 0, 1) := by decide +kernel
theorem dL_law_747 : decode cL_law 747 = .ok (.iload_n 3, 1) := by decide +kernel
theorem dL_law_748 : decode cL_law 748 = .ok (.iconst 2, 1) := by decide +kernel
theorem dL_law_749 : decode cL_law 749 = .ok (.iadd, 1) := by decide +kernel
theorem dL_law_750 : decode cL_law 750 = .ok (.iaload, 1) := by decide +kernel
theorem dL_law_751 : decode cL_law 751 = .ok (.invokevirtual 86, 3) := by decide +kernel
theorem dL_law_754 : decode cL_law 754 = .ok (.aload_n 2, 1) := by decide +kernel
theorem dL_law_755 : decode cL_law 755 = .ok (.aload_n 0, 1) := by decide +kernel
theorem dL_law_756 : decode cL_law 756 = .ok (.iload_n 3, 1) := by decide +kernel
theorem dL_law_757 : decode cL_law 757 = .ok (.iconst 1, 1) := by decide +kernel
theorem dL_law_758 : decode cL_law 758 = .ok (.iadd, 1) := by decide +kernel
theorem dL_law_759 : decode cL_law 759 = .ok (.iaload, 1) := by decide +kernel
theorem dL_law_760 : decode cL_law 760 = .ok (.aload_n 0, 1) := by decide +kernel
theorem dL_law_761 : decode cL_law 761 = .ok (.iload_n 3, 1) := by decide +kernel
theorem dL_law_762 : decode cL_law 762 = .ok (.iconst 2, 1) := by decide +kernel
theorem dL_law_763 : decode cL_law 763 = .ok (.iadd, 1) := by decide +kernel
theorem dL_law_764 : decode cL_law 764 = .ok (.iaload, 1) := by decide +kernel
theorem dL_law_765 : decode cL_law 765 = .ok (.invokevirtual 89, 3) := by decide +kernel
theorem dL_law_768 : decode cL_law 768 = .ok (.if_icmp .eq 452, 3) := by decide +kernel
theorem dL_law_771 : decode cL_law 771 = .ok (.iconst 0, 1) := by decide +kernel
theorem dL_law_772 : decode cL_law 772 = .ok (.ireturn, 1) := by decide +kernel
theorem dL_law_773 : decode cL_law 773 = .ok (.aload_n 1, 1) := by decide +kernel
theorem dL_law_774 : decode cL_law 774 = .ok (.aload_n 0, 1) := by decide +kernel
theorem dL_law_775 : decode cL_law 775 = .ok (.iload_n 3, 1) := by decide +kernel
theorem dL_law_776 : decode cL_law 776 = .ok (.iconst 1, 1) := by decide +kernel
theorem dL_law_777 : decode cL_law 777 = .ok (.iadd, 1) := by decide +kernel
theorem dL_law_778 : decode cL_law 778 = .ok (.iaload, 1) := by decide +kernel
theorem dL_law_779 : decode cL_law 779 = .ok (.invokevirtual 90, 3) := by decide +kernel
theorem dL_law_782 : decode cL_law 782 = .ok (.aload_n 2, 1) := by decide +kernel
theorem dL_law_783 : decode cL_law 783 = .ok (.aload_n 0, 1) := by decide +kernel
theorem dL_law_784 : decode cL_law 784 = .ok (.iload_n 3, 1) := by decide +kernel
theorem dL_law_785 : decode cL_law 785 = .ok (.iconst 1, 1) := by decide +kernel
theorem dL_law_786 : decode cL_law 786 = .ok (.iadd, 1) := by decide +kernel
theorem dL_law_787 : decode cL_law 787 = .ok (.iaload, 1) := by decide +kernel
theorem dL_law_788 : decode cL_law 788 = .ok (.invokevirtual 93, 3) := by decide +kernel
theorem dL_law_791 : decode cL_law 791 = .ok (.if_icmp .eq 429, 3) := by decide +kernel
theorem dL_law_794 : decode cL_law 794 = .ok (.iconst 0, 1) := by decide +kernel
theorem dL_law_795 : decode cL_law 795 = .ok (.ireturn, 1) := by decide +kernel
theorem dL_law_796 : decode cL_law 796 = .ok (.aload_n 1, 1) := by decide +kernel
theorem dL_law_797 : decode cL_law 797 = .ok (.invokevirtual 94, 3) := by decide +kernel
theorem dL_law_800 : decode cL_law 800 = .ok (.aload_n 2, 1) := by decide +kernel
theorem dL_law_801 : decode cL_law 801 = .ok (.invokevirtual 97, 3) := by decide +kernel
theorem dL_law_804 : decode cL_law 804 = .ok (.if_icmp .eq 416, 3) := by decide +kernel
theorem dL_law_807 : decode cL_law 807 = .ok (.iconst 0, 1) := by decide +kernel
theorem dL_law_808 : decode cL_law 808 = .ok (.ireturn, 1) := by decide +kernel
theorem dL_law_809 : decode cL_law 809 = .ok (.aload_n 1, 1) := by decide +kernel
theorem dL_law_810 : decode cL_law 810 = .ok (.aload_n 0, 1) := by decide +kernel
theorem dL_law_811 : decode cL_law 811 = .ok (.iload_n 3, 1) := by decide +kernel
theorem dL_law_812 : decode cL_law 812 = .ok (.iconst 1, 1) := by decide +kernel
theorem dL_law_813 : decode cL_law 813 = .ok (.iadd, 1) := by decide +kernel
theorem dL_law_814 : decode cL_law 814 = .ok (.iaload, 1) := by decide +kernel
theorem dL_law_815 : decode cL_law 815 = .ok (.aload_n 0, 1) := by decide +kernel
theorem dL_law_816 : decode cL_law 816 = .ok (.iload_n 3, 1) := by decide +kernel
theorem dL_law_817 : decode cL_law 817 = .ok (.iconst 2, 1) := by decide +kernel
theorem dL_law_818 : decode cL_law 818 = .ok (.iadd, 1) := by decide +kernel
theorem dL_law_819 : decode cL_law 819 = .ok (.iaload, 1) := by decide +kernel
theorem dL_law_820 : decode cL_law 820 = .ok (.invokevirtual 98, 3) := by decide +kernel
theorem dL_law_823 : decode cL_law 823 = .ok (.aload_n 2, 1) := by decide +kernel
theorem dL_law_824 : decode cL_law 824 = .ok (.aload_n 0, 1) := by decide +kernel
theorem dL_law_825 : decode cL_law 825 = .ok (.iload_n 3, 1) := by decide +kernel
theorem dL_law_826 : decode cL_law 826 = .ok (.iconst 1, 1) := by decide +kernel
theorem dL_law_827 : decode cL_law 827 = .ok (.iadd, 1) := by decide +kernel
theorem dL_law_828 : decode cL_law 828 = .ok (.iaload, 1) := by decide +kernel
theorem dL_law_829 : decode cL_law 829 = .ok (.aload_n 0, 1) := by decide +kernel
theorem dL_law_830 : decode cL_law 830 = .ok (.iload_n 3, 1) := by decide +kernel
theorem dL_law_831 : decode cL_law 831 = .ok (.iconst 2, 1) := by decide +kernel
theorem dL_law_832 : decode cL_law 832 = .ok (.iadd, 1) := by decide +kernel
theorem dL_law_833 : decode cL_law 833 = .ok (.iaload, 1) := by decide +kernel
theorem dL_law_834 : decode cL_law 834 = .ok (.invokevirtual 101, 3) := by decide +kernel
theorem dL_law_837 : decode cL_law 837 = .ok (.if_icmp .eq 383, 3) := by decide +kernel
theorem dL_law_840 : decode cL_law 840 = .ok (.iconst 0, 1) := by decide +kernel
theorem dL_law_841 : decode cL_law 841 = .ok (.ireturn, 1) := by decide +kernel
theorem dL_law_842 : decode cL_law 842 = .ok (.aload_n 1, 1) := by decide +kernel
theorem dL_law_843 : decode cL_law 843 = .ok (.aload_n 0, 1) := by decide +kernel
theorem dL_law_844 : decode cL_law 844 = .ok (.iload_n 3, 1) := by decide +kernel
theorem dL_law_845 : decode cL_law 845 = .ok (.iconst 1, 1) := by decide +kernel
theorem dL_law_846 : decode cL_law 846 = .ok (.iadd, 1) := by decide +kernel
theorem dL_law_847 : decode cL_law 847 = .ok (.iaload, 1) := by decide +kernel
theorem dL_law_848 : decode cL_law 848 = .ok (.aload_n 0, 1) := by decide +kernel
theorem dL_law_849 : decode cL_law 849 = .ok (.iload_n 3, 1) := by decide +kernel
theorem dL_law_850 : decode cL_law 850 = .ok (.iconst 2, 1) := by decide +kernel
theorem dL_law_851 : decode cL_law 851 = .ok (.iadd, 1) := by decide +kernel
theorem dL_law_852 : decode cL_law 852 = .ok (.iaload, 1) := by decide +kernel
theorem dL_law_853 : decode cL_law 853 = .ok (.aload_n 0, 1) := by decide +kernel
theorem dL_law_854 : decode cL_law 854 = .ok (.iload_n 3, 1) := by decide +kernel
theorem dL_law_855 : decode cL_law 855 = .ok (.iconst 3, 1) := by decide +kernel
theorem dL_law_856 : decode cL_law 856 = .ok (.iadd, 1) := by decide +kernel
theorem dL_law_857 : decode cL_law 857 = .ok (.iaload, 1) := by decide +kernel
theorem dL_law_858 : decode cL_law 858 = .ok (.invokevirtual 102, 3) := by decide +kernel
theorem dL_law_861 : decode cL_law 861 = .ok (.aload_n 2, 1) := by decide +kernel
theorem dL_law_862 : decode cL_law 862 = .ok (.aload_n 0, 1) := by decide +kernel
theorem dL_law_863 : decode cL_law 863 = .ok (.iload_n 3, 1) := by decide +kernel
theorem dL_law_864 : decode cL_law 864 = .ok (.iconst 1, 1) := by decide +kernel
theorem dL_law_865 : decode cL_law 865 = .ok (.iadd, 1) := by decide +kernel
theorem dL_law_866 : decode cL_law 866 = .ok (.iaload, 1) := by decide +kernel
theorem dL_law_867 : decode cL_law 867 = .ok (.aload_n 0, 1) := by decide +kernel
theorem dL_law_868 : decode cL_law 868 = .ok (.iload_n 3, 1) := by decide +kernel
theorem dL_law_869 : decode cL_law 869 = .ok (.iconst 2, 1) := by decide +kernel
theorem dL_law_870 : decode cL_law 870 = .ok (.iadd, 1) := by decide +kernel
theorem dL_law_871 : decode cL_law 871 = .ok (.iaload, 1) := by decide +kernel
theorem dL_law_872 : decode cL_law 872 = .ok (.aload_n 0, 1) := by decide +kernel
theorem dL_law_873 : decode cL_law 873 = .ok (.iload_n 3, 1) := by decide +kernel
theorem dL_law_874 : decode cL_law 874 = .ok (.iconst 3, 1) := by decide +kernel
theorem dL_law_875 : decode cL_law 875 = .ok (.iadd, 1) := by decide +kernel
theorem dL_law_876 : decode cL_law 876 = .ok (.iaload, 1) := by decide +kernel
theorem dL_law_877 : decode cL_law 877 = .ok (.invokevirtual 105, 3) := by decide +kernel
theorem dL_law_880 : decode cL_law 880 = .ok (.if_icmp .eq 340, 3) := by decide +kernel
theorem dL_law_883 : decode cL_law 883 = .ok (.iconst 0, 1) := by decide +kernel
theorem dL_law_884 : decode cL_law 884 = .ok (.ireturn, 1) := by decide +kernel
theorem dL_law_885 : decode cL_law 885 = .ok (.aload_n 1, 1) := by decide +kernel
theorem dL_law_886 : decode cL_law 886 = .ok (.aload_n 0, 1) := by decide +kernel
theorem dL_law_887 : decode cL_law 887 = .ok (.iload_n 3, 1) := by decide +kernel
theorem dL_law_888 : decode cL_law 888 = .ok (.iconst 1, 1) := by decide +kernel
theorem dL_law_889 : decode cL_law 889 = .ok (.iadd, 1) := by decide +kernel
theorem dL_law_890 : decode cL_law 890 = .ok (.iaload, 1) := by decide +kernel
theorem dL_law_891 : decode cL_law 891 = .ok (.aload_n 0, 1) := by decide +kernel
theorem dL_law_892 : decode cL_law 892 = .ok (.iload_n 3, 1) := by decide +kernel
theorem dL_law_893 : decode cL_law 893 = .ok (.iconst 2, 1) := by decide +kernel
theorem dL_law_894 : decode cL_law 894 = .ok (.iadd, 1) := by decide +kernel
theorem dL_law_895 : decode cL_law 895 = .ok (.iaload, 1) := by decide +kernel
theorem dL_law_896 : decode cL_law 896 = .ok (.invokevirtual 106, 3) := by decide +kernel
theorem dL_law_899 : decode cL_law 899 = .ok (.aload_n 2, 1) := by decide +kernel
theorem dL_law_900 : decode cL_law 900 = .ok (.aload_n 0, 1) := by decide +kernel
theorem dL_law_901 : decode cL_law 901 = .ok (.iload_n 3, 1) := by decide +kernel
theorem dL_law_902 : decode cL_law 902 = .ok (.iconst 1, 1) := by decide +kernel
theorem dL_law_903 : decode cL_law 903 = .ok (.iadd, 1) := by decide +kernel
theorem dL_law_904 : decode cL_law 904 = .ok (.iaload, 1) := by decide +kernel
theorem dL_law_905 : decode cL_law 905 = .ok (.aload_n 0, 1) := by decide +kernel
theorem dL_law_906 : decode cL_law 906 = .ok (.iload_n 3, 1) := by decide +kernel
theorem dL_law_907 : decode cL_law 907 = .ok (.iconst 2, 1) := by decide +kernel
theorem dL_law_908 : decode cL_law 908 = .ok (.iadd, 1) := by decide +kernel
theorem dL_law_909 : decode cL_law 909 = .ok (.iaload, 1) := by decide +kernel
theorem dL_law_910 : decode cL_law 910 = .ok (.invokevirtual 109, 3) := by decide +kernel
theorem dL_law_913 : decode cL_law 913 = .ok (.if_icmp .eq 307, 3) := by decide +kernel
theorem dL_law_916 : decode cL_law 916 = .ok (.iconst 0, 1) := by decide +kernel
theorem dL_law_917 : decode cL_law 917 = .ok (.ireturn, 1) := by decide +kernel
theorem dL_law_918 : decode cL_law 918 = .ok (.aload_n 1, 1) := by decide +kernel
theorem dL_law_919 : decode cL_law 919 = .ok (.aload_n 0, 1) := by decide +kernel
theorem dL_law_920 : decode cL_law 920 = .ok (.iload_n 3, 1) := by decide +kernel
theorem dL_law_921 : decode cL_law 921 = .ok (.iconst 1, 1) := by decide +kernel
theorem dL_law_922 : decode cL_law 922 = .ok (.iadd, 1) := by decide +kernel
theorem dL_law_923 : decode cL_law 923 = .ok (.iaload, 1) := by decide +kernel
theorem dL_law_924 : decode cL_law 924 = .ok (.aload_n 0, 1) := by decide +kernel
theorem dL_law_925 : decode cL_law 925 = .ok (.iload_n 3, 1) := by decide +kernel
theorem dL_law_926 : decode cL_law 926 = .ok (.iconst 2, 1) := by decide +kernel
theorem dL_law_927 : decode cL_law 927 = .ok (.iadd, 1) := by decide +kernel
theorem dL_law_928 : decode cL_law 928 = .ok (.iaload, 1) := by decide +kernel
theorem dL_law_929 : decode cL_law 929 = .ok (.aload_n 0, 1) := by decide +kernel
theorem dL_law_930 : decode cL_law 930 = .ok (.iload_n 3, 1) := by decide +kernel
theorem dL_law_931 : decode cL_law 931 = .ok (.iconst 3, 1) := by decide +kernel
theorem dL_law_932 : decode cL_law 932 = .ok (.iadd, 1) := by decide +kernel
theorem dL_law_933 : decode cL_law 933 = .ok (.iaload, 1) := by decide +kernel
theorem dL_law_934 : decode cL_law 934 = .ok (.invokevirtual 110, 3) := by decide +kernel
theorem dL_law_937 : decode cL_law 937 = .ok (.aload_n 2, 1) := by decide +kernel
theorem dL_law_938 : decode cL_law 938 = .ok (.aload_n 0, 1) := by decide +kernel
theorem dL_law_939 : decode cL_law 939 = .ok (.iload_n 3, 1) := by decide +kernel
theorem dL_law_940 : decode cL_law 940 = .ok (.iconst 1, 1) := by decide +kernel
theorem dL_law_941 : decode cL_law 941 = .ok (.iadd, 1) := by decide +kernel
theorem dL_law_942 : decode cL_law 942 = .ok (.iaload, 1) := by decide +kernel
theorem dL_law_943 : decode cL_law 943 = .ok (.aload_n 0, 1) := by decide +kernel
theorem dL_law_944 : decode cL_law 944 = .ok (.iload_n 3, 1) := by decide +kernel
theorem dL_law_945 : decode cL_law 945 = .ok (.iconst 2, 1) := by decide +kernel
theorem dL_law_946 : decode cL_law 946 = .ok (.iadd, 1) := by decide +kernel
theorem dL_law_947 : decode cL_law 947 = .ok (.iaload, 1) := by decide +kernel
theorem dL_law_948 : decode cL_law 948 = .ok (.aload_n 0, 1) := by decide +kernel
theorem dL_law_949 : decode cL_law 949 = .ok (.iload_n 3, 1) := by decide +kernel
theorem dL_law_950 : decode cL_law 950 = .ok (.iconst 3, 1) := by decide +kernel
theorem dL_law_951 : decode cL_law 951 = .ok (.iadd, 1) := by decide +kernel
theorem dL_law_952 : decode cL_law 952 = .ok (.iaload, 1) := by decide +kernel
theorem dL_law_953 : decode cL_law 953 = .ok (.invokevirtual 113, 3) := by decide +kernel
theorem dL_law_956 : decode cL_law 956 = .ok (.if_icmp .eq 264, 3) := by decide +kernel
theorem dL_law_959 : decode cL_law 959 = .ok (.iconst 0, 1) := by decide +kernel
theorem dL_law_960 : decode cL_law 960 = .ok (.ireturn, 1) := by decide +kernel
theorem dL_law_961 : decode cL_law 961 = .ok (.aload_n 1, 1) := by decide +kernel
theorem dL_law_962 : decode cL_law 962 = .ok (.aload_n 0, 1) := by decide +kernel
theorem dL_law_963 : decode cL_law 963 = .ok (.iload_n 3, 1) := by decide +kernel
theorem dL_law_964 : decode cL_law 964 = .ok (.iconst 1, 1) := by decide +kernel
theorem dL_law_965 : decode cL_law 965 = .ok (.iadd, 1) := by decide +kernel
theorem dL_law_966 : decode cL_law 966 = .ok (.iaload, 1) := by decide +kernel
theorem dL_law_967 : decode cL_law 967 = .ok (.aload_n 0, 1) := by decide +kernel
theorem dL_law_968 : decode cL_law 968 = .ok (.iload_n 3, 1) := by decide +kernel
theorem dL_law_969 : decode cL_law 969 = .ok (.iconst 2, 1) := by decide +kernel
theorem dL_law_970 : decode cL_law 970 = .ok (.iadd, 1) := by decide +kernel
theorem dL_law_971 : decode cL_law 971 = .ok (.iaload, 1) := by decide +kernel
theorem dL_law_972 : decode cL_law 972 = .ok (.aload_n 0, 1) := by decide +kernel
theorem dL_law_973 : decode cL_law 973 = .ok (.iload_n 3, 1) := by decide +kernel
theorem dL_law_974 : decode cL_law 974 = .ok (.iconst 3, 1) := by decide +kernel
theorem dL_law_975 : decode cL_law 975 = .ok (.iadd, 1) := by decide +kernel
theorem dL_law_976 : decode cL_law 976 = .ok (.iaload, 1) := by decide +kernel
theorem dL_law_977 : decode cL_law 977 = .ok (.aload_n 0, 1) := by decide +kernel
theorem dL_law_978 : decode cL_law 978 = .ok (.iload_n 3, 1) := by decide +kernel
theorem dL_law_979 : decode cL_law 979 = .ok (.iconst 4, 1) := by decide +kernel
theorem dL_law_980 : decode cL_law 980 = .ok (.iadd, 1) := by decide +kernel
theorem dL_law_981 : decode cL_law 981 = .ok (.iaload, 1) := by decide +kernel
theorem dL_law_982 : decode cL_law 982 = .ok (.invokevirtual 114, 3) := by decide +kernel
theorem dL_law_985 : decode cL_law 985 = .ok (.aload_n 2, 1) := by decide +kernel
theorem dL_law_986 : decode cL_law 986 = .ok (.aload_n 0, 1) := by decide +kernel
theorem dL_law_987 : decode cL_law 987 = .ok (.iload_n 3, 1) := by decide +kernel
theorem dL_law_988 : decode cL_law 988 = .ok (.iconst 1, 1) := by decide +kernel
theorem dL_law_989 : decode cL_law 989 = .ok (.iadd, 1) := by decide +kernel
theorem dL_law_990 : decode cL_law 990 = .ok (.iaload, 1) := by decide +kernel
theorem dL_law_991 : decode cL_law 991 = .ok (.aload_n 0, 1) := by decide +kernel
theorem dL_law_992 : decode cL_law 992 = .ok (.iload_n 3, 1) := by decide +kernel
theorem dL_law_993 : decode cL_law 993 = .ok (.iconst 2, 1) := by decide +kernel
theorem dL_law_994 : decode cL_law 994 = .ok (.iadd, 1) := by decide +kernel
theorem dL_law_995 : decode cL_law 995 = .ok (.iaload, 1) := by decide +kernel
theorem dL_law_996 : decode cL_law 996 = .ok (.aload_n 0, 1) := by decide +kernel
theorem dL_law_997 : decode cL_law 997 = .ok (.iload_n 3, 1) := by decide +kernel
theorem dL_law_998 : decode cL_law 998 = .ok (.iconst 3, 1) := by decide +kernel
theorem dL_law_999 : decode cL_law 999 = .ok (.iadd, 1) := by decide +kernel
theorem dL_law_1000 : decode cL_law 1000 = .ok (.iaload, 1) := by decide +kernel
theorem dL_law_1001 : decode cL_law 1001 = .ok (.aload_n 0, 1) := by decide +kernel
theorem dL_law_1002 : decode cL_law 1002 = .ok (.iload_n 3, 1) := by decide +kernel
theorem dL_law_1003 : decode cL_law 1003 = .ok (.iconst 4, 1) := by decide +kernel
theorem dL_law_1004 : decode cL_law 1004 = .ok (.iadd, 1) := by decide +kernel
theorem dL_law_1005 : decode cL_law 1005 = .ok (.iaload, 1) := by decide +kernel
theorem dL_law_1006 : decode cL_law 1006 = .ok (.invokevirtual 118, 3) := by decide +kernel
theorem dL_law_1009 : decode cL_law 1009 = .ok (.if_icmp .eq 211, 3) := by decide +kernel
theorem dL_law_1012 : decode cL_law 1012 = .ok (.iconst 0, 1) := by decide +kernel
theorem dL_law_1013 : decode cL_law 1013 = .ok (.ireturn, 1) := by decide +kernel
theorem dL_law_1014 : decode cL_law 1014 = .ok (.aload_n 1, 1) := by decide +kernel
theorem dL_law_1015 : decode cL_law 1015 = .ok (.aload_n 0, 1) := by decide +kernel
theorem dL_law_1016 : decode cL_law 1016 = .ok (.iload_n 3, 1) := by decide +kernel
theorem dL_law_1017 : decode cL_law 1017 = .ok (.iconst 1, 1) := by decide +kernel
theorem dL_law_1018 : decode cL_law 1018 = .ok (.iadd, 1) := by decide +kernel
theorem dL_law_1019 : decode cL_law 1019 = .ok (.iaload, 1) := by decide +kernel
theorem dL_law_1020 : decode cL_law 1020 = .ok (.aload_n 0, 1) := by decide +kernel
theorem dL_law_1021 : decode cL_law 1021 = .ok (.iload_n 3, 1) := by decide +kernel
theorem dL_law_1022 : decode cL_law 1022 = .ok (.iconst 2, 1) := by decide +kernel
theorem dL_law_1023 : decode cL_law 1023 = .ok (.iadd, 1) := by decide +kernel
theorem dL_law_1024 : decode cL_law 1024 = .ok (.iaload, 1) := by decide +kernel
theorem dL_law_1025 : decode cL_law 1025 = .ok (.aload_n 0, 1) := by decide +kernel
theorem dL_law_1026 : decode cL_law 1026 = .ok (.iload_n 3, 1) := by decide +kernel
theorem dL_law_1027 : decode cL_law 1027 = .ok (.iconst 3, 1) := by decide +kernel
theorem dL_law_1028 : decode cL_law 1028 = .ok (.iadd, 1) := by decide +kernel
theorem dL_law_1029 : decode cL_law 1029 = .ok (.iaload, 1) := by decide +kernel
theorem dL_law_1030 : decode cL_law 1030 = .ok (.invokevirtual 119, 3) := by decide +kernel
theorem dL_law_1033 : decode cL_law 1033 = .ok (.aload_n 2, 1) := by decide +kernel
theorem dL_law_1034 : decode cL_law 1034 = .ok (.aload_n 0, 1) := by decide +kernel
theorem dL_law_1035 : decode cL_law 1035 = .ok (.iload_n 3, 1) := by decide +kernel
theorem dL_law_1036 : decode cL_law 1036 = .ok (.iconst 1, 1) := by decide +kernel
theorem dL_law_1037 : decode cL_law 1037 = .ok (.iadd, 1) := by decide +kernel
theorem dL_law_1038 : decode cL_law 1038 = .ok (.iaload, 1) := by decide +kernel
theorem dL_law_1039 : decode cL_law 1039 = .ok (.aload_n 0, 1) := by decide +kernel
theorem dL_law_1040 : decode cL_law 1040 = .ok (.iload_n 3, 1) := by decide +kernel
theorem dL_law_1041 : decode cL_law 1041 = .ok (.iconst 2, 1) := by decide +kernel
theorem dL_law_1042 : decode cL_law 1042 = .ok (.iadd, 1) := by decide +kernel
theorem dL_law_1043 : decode cL_law 1043 = .ok (.iaload, 1) := by decide +kernel
theorem dL_law_1044 : decode cL_law 1044 = .ok (.aload_n 0, 1) := by decide +kernel
theorem dL_law_1045 : decode cL_law 1045 = .ok (.iload_n 3, 1) := by decide +kernel
theorem dL_law_1046 : decode cL_law 1046 = .ok (.iconst 3, 1) := by decide +kernel
theorem dL_law_1047 : decode cL_law 1047 = .ok (.iadd, 1) := by decide +kernel
theorem dL_law_1048 : decode cL_law 1048 = .ok (.iaload, 1) := by decide +kernel
theorem dL_law_1049 : decode cL_law 1049 = .ok (.invokevirtual 122, 3) := by decide +kernel
theorem dL_law_1052 : decode cL_law 1052 = .ok (.if_icmp .eq 168, 3) := by decide +kernel
theorem dL_law_1055 : decode cL_law 1055 = .ok (.iconst 0, 1) := by decide +kernel
theorem dL_law_1056 : decode cL_law 1056 = .ok (.ireturn, 1) := by decide +kernel
theorem dL_law_1057 : decode cL_law 1057 = .ok (.aload_n 1, 1) := by decide +kernel
theorem dL_law_1058 : decode cL_law 1058 = .ok (.aload_n 0, 1) := by decide +kernel
theorem dL_law_1059 : decode cL_law 1059 = .ok (.iload_n 3, 1) := by decide +kernel
theorem dL_law_1060 : decode cL_law 1060 = .ok (.iconst 1, 1) := by decide +kernel
theorem dL_law_1061 : decode cL_law 1061 = .ok (.iadd, 1) := by decide +kernel
theorem dL_law_1062 : decode cL_law 1062 = .ok (.iaload, 1) := by decide +kernel
theorem dL_law_1063 : decode cL_law 1063 = .ok (.invokevirtual 123, 3) := by decide +kernel
theorem dL_law_1066 : decode cL_law 1066 = .ok (.aload_n 2, 1) := by decide +kernel
theorem dL_law_1067 : decode cL_law 1067 = .ok (.aload_n 0, 1) := by decide +kernel
theorem dL_law_1068 : decode cL_law 1068 = .ok (.iload_n 3, 1) := by decide +kernel
theorem dL_law_1069 : decode cL_law 1069 = .ok (.iconst 1, 1) := by decide +kernel
theorem dL_law_1070 : decode cL_law 1070 = .ok (.iadd, 1) := by decide +kernel
theorem dL_law_1071 : decode cL_law 1071 = .ok (.iaload, 1) := by decide +kernel
theorem dL_law_1072 : decode cL_law 1072 = .ok (.invokevirtual 126, 3) := by decide +kernel
theorem dL_law_1075 : decode cL_law 1075 = .ok (.if_icmp .eq 145, 3) := by decide +kernel
theorem dL_law_1078 : decode cL_law 1078 = .ok (.iconst 0, 1) := by decide +kernel
theorem dL_law_1079 : decode cL_law 1079 = .ok (.ireturn, 1) := by decide +kernel
theorem dL_law_1080 : decode cL_law 1080 = .ok (.aload_n 1, 1) := by decide +kernel
theorem dL_law_1081 : decode cL_law 1081 = .ok (.aload_n 0, 1) := by decide +kernel
theorem dL_law_1082 : decode cL_law 1082 = .ok (.iload_n 3, 1) := by decide +kernel
theorem dL_law_1083 : decode cL_law 1083 = .ok (.iconst 1, 1) := by decide +kernel
theorem dL_law_1084 : decode cL_law 1084 = .ok (.iadd, 1) := by decide +kernel
theorem dL_law_1085 : decode cL_law 1085 = .ok (.iaload, 1) := by decide +kernel
theorem dL_law_1086 : decode cL_law 1086 = .ok (.invokevirtual 127, 3) := by decide +kernel
theorem dL_law_1089 : decode cL_law 1089 = .ok (.aload_n 2, 1) := by decide +kernel
theorem dL_law_1090 : decode cL_law 1090 = .ok (.aload_n 0, 1) := by decide +kernel
theorem dL_law_1091 : decode cL_law 1091 = .ok (.iload_n 3, 1) := by decide +kernel
theorem dL_law_1092 : decode cL_law 1092 = .ok (.iconst 1, 1) := by decide +kernel
theorem dL_law_1093 : decode cL_law 1093 = .ok (.iadd, 1) := by decide +kernel
theorem dL_law_1094 : decode cL_law 1094 = .ok (.iaload, 1) := by decide +kernel
theorem dL_law_1095 : decode cL_law 1095 = .ok (.invokevirtual 131, 3) := by decide +kernel
theorem dL_law_1098 : decode cL_law 1098 = .ok (.lcmp, 1) := by decide +kernel
theorem dL_law_1099 : decode cL_law 1099 = .ok (.ifCond .eq 121, 3) := by decide +kernel
theorem dL_law_1102 : decode cL_law 1102 = .ok (.iconst 0, 1) := by decide +kernel
theorem dL_law_1103 : decode cL_law 1103 = .ok (.ireturn, 1) := by decide +kernel
theorem dL_law_1104 : decode cL_law 1104 = .ok (.aload_n 1, 1) := by decide +kernel
theorem dL_law_1105 : decode cL_law 1105 = .ok (.aload_n 0, 1) := by decide +kernel
theorem dL_law_1106 : decode cL_law 1106 = .ok (.iload_n 3, 1) := by decide +kernel
theorem dL_law_1107 : decode cL_law 1107 = .ok (.iconst 1, 1) := by decide +kernel
theorem dL_law_1108 : decode cL_law 1108 = .ok (.iadd, 1) := by decide +kernel
theorem dL_law_1109 : decode cL_law 1109 = .ok (.iaload, 1) := by decide +kernel
theorem dL_law_1110 : decode cL_law 1110 = .ok (.aload_n 0, 1) := by decide +kernel
theorem dL_law_1111 : decode cL_law 1111 = .ok (.iload_n 3, 1) := by decide +kernel
theorem dL_law_1112 : decode cL_law 1112 = .ok (.iconst 2, 1) := by decide +kernel
theorem dL_law_1113 : decode cL_law 1113 = .ok (.iadd, 1) := by decide +kernel
theorem dL_law_1114 : decode cL_law 1114 = .ok (.iaload, 1) := by decide +kernel
theorem dL_law_1115 : decode cL_law 1115 = .ok (.invokevirtual 132, 3) := by decide +kernel
theorem dL_law_1118 : decode cL_law 1118 = .ok (.aload_n 2, 1) := by decide +kernel
theorem dL_law_1119 : decode cL_law 1119 = .ok (.aload_n 0, 1) := by decide +kernel
theorem dL_law_1120 : decode cL_law 1120 = .ok (.iload_n 3, 1) := by decide +kernel
theorem dL_law_1121 : decode cL_law 1121 = .ok (.iconst 1, 1) := by decide +kernel
theorem dL_law_1122 : decode cL_law 1122 = .ok (.iadd, 1) := by decide +kernel
theorem dL_law_1123 : decode cL_law 1123 = .ok (.iaload, 1) := by decide +kernel
theorem dL_law_1124 : decode cL_law 1124 = .ok (.aload_n 0, 1) := by decide +kernel
theorem dL_law_1125 : decode cL_law 1125 = .ok (.iload_n 3, 1) := by decide +kernel
theorem dL_law_1126 : decode cL_law 1126 = .ok (.iconst 2, 1) := by decide +kernel
theorem dL_law_1127 : decode cL_law 1127 = .ok (.iadd, 1) := by decide +kernel
theorem dL_law_1128 : decode cL_law 1128 = .ok (.iaload, 1) := by decide +kernel
theorem dL_law_1129 : decode cL_law 1129 = .ok (.invokevirtual 135, 3) := by decide +kernel
theorem dL_law_1132 : decode cL_law 1132 = .ok (.if_icmp .eq 88, 3) := by decide +kernel
theorem dL_law_1135 : decode cL_law 1135 = .ok (.iconst 0, 1) := by decide +kernel
theorem dL_law_1136 : decode cL_law 1136 = .ok (.ireturn, 1) := by decide +kernel
theorem dL_law_1137 : decode cL_law 1137 = .ok (.aload_n 1, 1) := by decide +kernel
theorem dL_law_1138 : decode cL_law 1138 = .ok (.aload_n 0, 1) := by decide +kernel
theorem dL_law_1139 : decode cL_law 1139 = .ok (.iload_n 3, 1) := by decide +kernel
theorem dL_law_1140 : decode cL_law 1140 = .ok (.iconst 1, 1) := by decide +kernel
theorem dL_law_1141 : decode cL_law 1141 = .ok (.iadd, 1) := by decide +kernel
theorem dL_law_1142 : decode cL_law 1142 = .ok (.iaload, 1) := by decide +kernel
theorem dL_law_1143 : decode cL_law 1143 = .ok (.invokevirtual 136, 3) := by decide +kernel
theorem dL_law_1146 : decode cL_law 1146 = .ok (.aload_n 2, 1) := by decide +kernel
theorem dL_law_1147 : decode cL_law 1147 = .ok (.aload_n 0, 1) := by decide +kernel
theorem dL_law_1148 : decode cL_law 1148 = .ok (.iload_n 3, 1) := by decide +kernel
theorem dL_law_1149 : decode cL_law 1149 = .ok (.iconst 1, 1) := by decide +kernel
theorem dL_law_1150 : decode cL_law 1150 = .ok (.iadd, 1) := by decide +kernel
theorem dL_law_1151 : decode cL_law 1151 = .ok (.iaload, 1) := by decide +kernel
theorem dL_law_1152 : decode cL_law 1152 = .ok (.invokevirtual 139, 3) := by decide +kernel
theorem dL_law_1155 : decode cL_law 1155 = .ok (.if_icmp .eq 65, 3) := by decide +kernel
theorem dL_law_1158 : decode cL_law 1158 = .ok (.iconst 0, 1) := by decide +kernel
theorem dL_law_1159 : decode cL_law 1159 = .ok (.ireturn, 1) := by decide +kernel
theorem dL_law_1160 : decode cL_law 1160 = .ok (.aload_n 1, 1) := by decide +kernel
theorem dL_law_1161 : decode cL_law 1161 = .ok (.aload_n 0, 1) := by decide +kernel
theorem dL_law_1162 : decode cL_law 1162 = .ok (.iload_n 3, 1) := by decide +kernel
theorem dL_law_1163 : decode cL_law 1163 = .ok (.iconst 1, 1) := by decide +kernel
theorem dL_law_1164 : decode cL_law 1164 = .ok (.iadd, 1) := by decide +kernel
theorem dL_law_1165 : decode cL_law 1165 = .ok (.iaload, 1) := by decide +kernel
theorem dL_law_1166 : decode cL_law 1166 = .ok (.invokevirtual 140, 3) := by decide +kernel
theorem dL_law_1169 : decode cL_law 1169 = .ok (.aload_n 2, 1) := by decide +kernel
theorem dL_law_1170 : decode cL_law 1170 = .ok (.aload_n 0, 1) := by decide +kernel
theorem dL_law_1171 : decode cL_law 1171 = .ok (.iload_n 3, 1) := by decide +kernel
theorem dL_law_1172 : decode cL_law 1172 = .ok (.iconst 1, 1) := by decide +kernel
theorem dL_law_1173 : decode cL_law 1173 = .ok (.iadd, 1) := by decide +kernel
theorem dL_law_1174 : decode cL_law 1174 = .ok (.iaload, 1) := by decide +kernel
theorem dL_law_1175 : decode cL_law 1175 = .ok (.invokevirtual 143, 3) := by decide +kernel
theorem dL_law_1178 : decode cL_law 1178 = .ok (.if_icmp .eq 42, 3) := by decide +kernel
theorem dL_law_1181 : decode cL_law 1181 = .ok (.iconst 0, 1) := by decide +kernel
theorem dL_law_1182 : decode cL_law 1182 = .ok (.ireturn, 1) := by decide +kernel
theorem dL_law_1183 : decode cL_law 1183 = .ok (.aload_n 1, 1) := by decide +kernel
theorem dL_law_1184 : decode cL_law 1184 = .ok (.aload_n 0, 1) := by decide +kernel
theorem dL_law_1185 : decode cL_law 1185 = .ok (.iload_n 3, 1) := by decide +kernel
theorem dL_law_1186 : decode cL_law 1186 = .ok (.iconst 1, 1) := by decide +kernel
theorem dL_law_1187 : decode cL_law 1187 = .ok (.iadd, 1) := by decide +kernel
theorem dL_law_1188 : decode cL_law 1188 = .ok (.iaload, 1) := by decide +kernel
theorem dL_law_1189 : decode cL_law 1189 = .ok (.invokevirtual 144, 3) := by decide +kernel
theorem dL_law_1192 : decode cL_law 1192 = .ok (.aload_n 2, 1) := by decide +kernel
theorem dL_law_1193 : decode cL_law 1193 = .ok (.aload_n 0, 1) := by decide +kernel
theorem dL_law_1194 : decode cL_law 1194 = .ok (.iload_n 3, 1) := by decide +kernel
theorem dL_law_1195 : decode cL_law 1195 = .ok (.iconst 1, 1) := by decide +kernel
theorem dL_law_1196 : decode cL_law 1196 = .ok (.iadd, 1) := by decide +kernel
theorem dL_law_1197 : decode cL_law 1197 = .ok (.iaload, 1) := by decide +kernel
theorem dL_law_1198 : decode cL_law 1198 = .ok (.invokevirtual 147, 3) := by decide +kernel
theorem dL_law_1201 : decode cL_law 1201 = .ok (.if_icmp .eq 19, 3) := by decide +kernel
theorem dL_law_1204 : decode cL_law 1204 = .ok (.iconst 0, 1) := by decide +kernel
theorem dL_law_1205 : decode cL_law 1205 = .ok (.ireturn, 1) := by decide +kernel
theorem dL_law_1206 : decode cL_law 1206 = .ok (.aload_n 1, 1) := by decide +kernel
theorem dL_law_1207 : decode cL_law 1207 = .ok (.invokevirtual 148, 3) := by decide +kernel
theorem dL_law_1210 : decode cL_law 1210 = .ok (.aload_n 2, 1) := by decide +kernel
theorem dL_law_1211 : decode cL_law 1211 = .ok (.invokevirtual 152, 3) := by decide +kernel
theorem dL_law_1214 : decode cL_law 1214 = .ok (.lcmp, 1) := by decide +kernel
theorem dL_law_1215 : decode cL_law 1215 = .ok (.ifCond .eq 5, 3) := by decide +kernel
theorem dL_law_1218 : decode cL_law 1218 = .ok (.iconst 0, 1) := by decide +kernel
theorem dL_law_1219 : decode cL_law 1219 = .ok (.ireturn, 1) := by decide +kernel
theorem dL_law_1220 : decode cL_law 1220 = .ok (.iinc 3 6, 3) := by decide +kernel
theorem dL_law_1223 : decode cL_law 1223 = .ok (.goto (-1205), 3) := by decide +kernel
theorem dL_law_1226 : decode cL_law 1226 = .ok (.iconst 1, 1) := by decide +kernel
theorem dL_law_1227 : decode cL_law 1227 = .ok (.ireturn, 1) := by decide +kernel
def f_L_law_b293 (n : Nat) (xs : Nat → Int32) (L : Nat) (q18 : Int32 → m_M → Option Int32) (x3 : Int32) (s0 : Int32) (s2 : Int32) (s3 : Int32) (M : m_M) : Option Int32 :=
  m_o2 (f_X8_doubt n s2 s3 M) fun r1 M2 =>
  if s0 = r1 then
  q18 (x3 + 6) M2
  else
  some 0
def f_L_law_b271 (n : Nat) (xs : Nat → Int32) (L : Nat) (q18 : Int32 → m_M → Option Int32) (x3 : Int32) (s1 : Int32) (s2 : Int32) (M : m_M) : Option Int32 :=
  m_o2 (f_X7_doubt s1 s2 M) fun r4 M5 =>
  m_gd (m_in (x3 + (1 : Int32)) L) (
  m_gd (m_in (x3 + (2 : Int32)) L) (
  if (xs (x3 + (2 : Int32)).toNatClampNeg) = 0 then
  f_L_law_b293 n xs L q18 x3 r4 (xs (x3 + (1 : Int32)).toNatClampNeg) 0 M5
  else
  f_L_law_b293 n xs L q18 x3 r4 (xs (x3 + (1 : Int32)).toNatClampNeg) 1 M5))
def f_L_law_b18 (n : Nat) (xs : Nat → Int32) (L : Nat) : Nat → Int32 → m_M → Option Int32
  | 0, _, _ => none
  | u + 1, x3, M =>
    if ((nI L) - (6 : Int32)) < x3 then
  some 1
  else
  m_gd (m_in x3 L) (
  if ((xs x3.toNatClampNeg) &&& (31 : Int32)) = 0 then
  m_b2 (f_X7_person M) fun r12 M13 =>
  m_b2 (f_X8_person M13) fun r14 M15 =>
  if r12 = r14 then
  f_L_law_b18 n xs L u (x3 + 6) M15
  else
  some 0
  else
  if ((xs x3.toNatClampNeg) &&& (31 : Int32)) = 1 then
  m_gd (m_in (x3 + (1 : Int32)) L) (
  m_gd (m_in (x3 + (2 : Int32)) L) (
  m_gd (m_in (x3 + (3 : Int32)) L) (
  m_gd (m_in (x3 + (4 : Int32)) L) (
  m_gd (m_in (x3 + (5 : Int32)) L) (
  m_o2 (f_X7_note n (xs (x3 + (1 : Int32)).toNatClampNeg) (xs (x3 + (2 : Int32)).toNatClampNeg) (xs (x3 + (3 : Int32)).toNatClampNeg) (xs (x3 + (4 : Int32)).toNatClampNeg) (xs (x3 + (5 : Int32)).toNatClampNeg) M) fun r23 M24 =>
  m_o2 (f_X8_note n (xs (x3 + (1 : Int32)).toNatClampNeg) (xs (x3 + (2 : Int32)).toNatClampNeg) (xs (x3 + (3 : Int32)).toNatClampNeg) (xs (x3 + (4 : Int32)).toNatClampNeg) (xs (x3 + (5 : Int32)).toNatClampNeg) M24) fun r25 M26 =>
  if r23 = r25 then
  f_L_law_b18 n xs L u (x3 + 6) M26
  else
  some 0)))))
  else
  if ((xs x3.toNatClampNeg) &&& (31 : Int32)) = 2 then
  m_gd (m_in (x3 + (1 : Int32)) L) (
  m_gd (m_in (x3 + (2 : Int32)) L) (
  if (xs (x3 + (2 : Int32)).toNatClampNeg) = 0 then
  f_L_law_b271 n xs L (f_L_law_b18 n xs L u) x3 (xs (x3 + (1 : Int32)).toNatClampNeg) 0 M
  else
  f_L_law_b271 n xs L (f_L_law_b18 n xs L u) x3 (xs (x3 + (1 : Int32)).toNatClampNeg) 1 M))
  else
  if ((xs x3.toNatClampNeg) &&& (31 : Int32)) = 3 then
  m_gd (m_in (x3 + (1 : Int32)) L) (
  m_gd (m_in (x3 + (2 : Int32)) L) (
  m_gd (m_in (x3 + (3 : Int32)) L) (
  m_o2 (f_X7_type n ((((xs (x3 + (1 : Int32)).toNatClampNeg).toInt64) <<< ((32 : Int32).toInt64 &&& 63)) ||| (((xs (x3 + (2 : Int32)).toNatClampNeg).toInt64) &&& (4294967295 : Int64))) (xs (x3 + (3 : Int32)).toNatClampNeg) M) fun r36 M37 =>
  m_o2 (f_X8_type n ((((xs (x3 + (1 : Int32)).toNatClampNeg).toInt64) <<< ((32 : Int32).toInt64 &&& 63)) ||| (((xs (x3 + (2 : Int32)).toNatClampNeg).toInt64) &&& (4294967295 : Int64))) (xs (x3 + (3 : Int32)).toNatClampNeg) M37) fun r38 M39 =>
  if r36 = r38 then
  f_L_law_b18 n xs L u (x3 + 6) M39
  else
  some 0)))
  else
  if ((xs x3.toNatClampNeg) &&& (31 : Int32)) = 4 then
  m_b2 (f_X7_clear M) fun r42 M43 =>
  m_b2 (f_X8_clear M43) fun r44 M45 =>
  if r42 = r44 then
  f_L_law_b18 n xs L u (x3 + 6) M45
  else
  some 0
  else
  if ((xs x3.toNatClampNeg) &&& (31 : Int32)) = 5 then
  m_o2 (f_X7_read n M) fun r48 M49 =>
  m_o2 (f_X8_read n M49) fun r50 M51 =>
  if r48 = r50 then
  f_L_law_b18 n xs L u (x3 + 6) M51
  else
  some 0
  else
  if ((xs x3.toNatClampNeg) &&& (31 : Int32)) = 6 then
  m_gd (m_in (x3 + (1 : Int32)) L) (
  m_gd (m_in (x3 + (2 : Int32)) L) (
  m_o2 (f_X7_write n (xs (x3 + (1 : Int32)).toNatClampNeg) (xs (x3 + (2 : Int32)).toNatClampNeg) M) fun r56 M57 =>
  m_o2 (f_X8_write (xs (x3 + (1 : Int32)).toNatClampNeg) (xs (x3 + (2 : Int32)).toNatClampNeg) M57) fun r58 M59 =>
  if r56 = r58 then
  f_L_law_b18 n xs L u (x3 + 6) M59
  else
  some 0))
  else
  if ((xs x3.toNatClampNeg) &&& (31 : Int32)) = 7 then
  m_gd (m_in (x3 + (1 : Int32)) L) (
  m_o2 (f_X7_erase n (xs (x3 + (1 : Int32)).toNatClampNeg) M) fun r63 M64 =>
  m_o2 (f_X8_erase (xs (x3 + (1 : Int32)).toNatClampNeg) M64) fun r65 M66 =>
  if r63 = r65 then
  f_L_law_b18 n xs L u (x3 + 6) M66
  else
  some 0)
  else
  if ((xs x3.toNatClampNeg) &&& (31 : Int32)) = 8 then
  m_gd (m_in (x3 + (1 : Int32)) L) (
  m_ob (f_X7_fault (xs (x3 + (1 : Int32)).toNatClampNeg) M) fun r70 =>
  m_o2 (f_X8_fault n (xs (x3 + (1 : Int32)).toNatClampNeg) M) fun r71 M72 =>
  if r70 = r71 then
  f_L_law_b18 n xs L u (x3 + 6) M72
  else
  some 0)
  else
  if ((xs x3.toNatClampNeg) &&& (31 : Int32)) = 9 then
  m_gd (m_in (x3 + (1 : Int32)) L) (
  m_gd (m_in (x3 + (2 : Int32)) L) (
  m_o2 (f_X7_holder n (xs (x3 + (1 : Int32)).toNatClampNeg) (xs (x3 + (2 : Int32)).toNatClampNeg) M) fun r77 M78 =>
  m_o2 (f_X8_holder n (xs (x3 + (1 : Int32)).toNatClampNeg) (xs (x3 + (2 : Int32)).toNatClampNeg) M78) fun r79 M80 =>
  if r77 = r79 then
  f_L_law_b18 n xs L u (x3 + 6) M80
  else
  some 0))
  else
  if ((xs x3.toNatClampNeg) &&& (31 : Int32)) = 10 then
  m_gd (m_in (x3 + (1 : Int32)) L) (
  m_gd (m_in (x3 + (2 : Int32)) L) (
  m_gd (m_in (x3 + (3 : Int32)) L) (
  m_o2 (f_X7_in n (xs (x3 + (1 : Int32)).toNatClampNeg) (xs (x3 + (2 : Int32)).toNatClampNeg) (xs (x3 + (3 : Int32)).toNatClampNeg) M) fun r86 M87 =>
  m_o2 (f_X8_in n (xs (x3 + (1 : Int32)).toNatClampNeg) (xs (x3 + (2 : Int32)).toNatClampNeg) (xs (x3 + (3 : Int32)).toNatClampNeg) M87) fun r88 M89 =>
  if r86 = r88 then
  f_L_law_b18 n xs L u (x3 + 6) M89
  else
  some 0)))
  else
  if ((xs x3.toNatClampNeg) &&& (31 : Int32)) = 11 then
  m_gd (m_in (x3 + (1 : Int32)) L) (
  m_gd (m_in (x3 + (2 : Int32)) L) (
  m_gd (m_in (x3 + (3 : Int32)) L) (
  m_o2 (f_X7_own n (xs (x3 + (1 : Int32)).toNatClampNeg) (xs (x3 + (2 : Int32)).toNatClampNeg) (xs (x3 + (3 : Int32)).toNatClampNeg) M) fun r95 M96 =>
  m_o2 (f_X8_own n (xs (x3 + (1 : Int32)).toNatClampNeg) (xs (x3 + (2 : Int32)).toNatClampNeg) (xs (x3 + (3 : Int32)).toNatClampNeg) M96) fun r97 M98 =>
  if r95 = r97 then
  f_L_law_b18 n xs L u (x3 + 6) M98
  else
  some 0)))
  else
  if ((xs x3.toNatClampNeg) &&& (31 : Int32)) = 12 then
  m_gd (m_in (x3 + (1 : Int32)) L) (
  m_gd (m_in (x3 + (2 : Int32)) L) (
  m_gd (m_in (x3 + (3 : Int32)) L) (
  m_o2 (f_X7_net n (xs (x3 + (1 : Int32)).toNatClampNeg) (xs (x3 + (2 : Int32)).toNatClampNeg) (xs (x3 + (3 : Int32)).toNatClampNeg) M) fun r104 M105 =>
  m_o2 (f_X8_net n (xs (x3 + (1 : Int32)).toNatClampNeg) (xs (x3 + (2 : Int32)).toNatClampNeg) (xs (x3 + (3 : Int32)).toNatClampNeg) M105) fun r106 M107 =>
  if r104 = r106 then
  f_L_law_b18 n xs L u (x3 + 6) M107
  else
  some 0)))
  else
  if ((xs x3.toNatClampNeg) &&& (31 : Int32)) = 13 then
  m_gd (m_in (x3 + (1 : Int32)) L) (
  m_gd (m_in (x3 + (2 : Int32)) L) (
  m_o2 (f_X7_owed n (xs (x3 + (1 : Int32)).toNatClampNeg) (xs (x3 + (2 : Int32)).toNatClampNeg) M) fun r112 M113 =>
  m_o2 (f_X8_owed n (xs (x3 + (1 : Int32)).toNatClampNeg) (xs (x3 + (2 : Int32)).toNatClampNeg) M113) fun r114 M115 =>
  if r112 = r114 then
  f_L_law_b18 n xs L u (x3 + 6) M115
  else
  some 0))
  else
  if ((xs x3.toNatClampNeg) &&& (31 : Int32)) = 14 then
  m_gd (m_in (x3 + (1 : Int32)) L) (
  m_gd (m_in (x3 + (2 : Int32)) L) (
  m_o2 (f_X7_answers n (xs (x3 + (1 : Int32)).toNatClampNeg) (xs (x3 + (2 : Int32)).toNatClampNeg) M) fun r120 M121 =>
  m_o2 (f_X8_answers n (xs (x3 + (1 : Int32)).toNatClampNeg) (xs (x3 + (2 : Int32)).toNatClampNeg) M121) fun r122 M123 =>
  if r120 = r122 then
  f_L_law_b18 n xs L u (x3 + 6) M123
  else
  some 0))
  else
  if ((xs x3.toNatClampNeg) &&& (31 : Int32)) = 15 then
  m_gd (m_in (x3 + (1 : Int32)) L) (
  m_gd (m_in (x3 + (2 : Int32)) L) (
  m_gd (m_in (x3 + (3 : Int32)) L) (
  m_o2 (f_X7_ask n (xs (x3 + (1 : Int32)).toNatClampNeg) (xs (x3 + (2 : Int32)).toNatClampNeg) (xs (x3 + (3 : Int32)).toNatClampNeg) M) fun r129 M130 =>
  m_o2 (f_X8_ask n (xs (x3 + (1 : Int32)).toNatClampNeg) (xs (x3 + (2 : Int32)).toNatClampNeg) (xs (x3 + (3 : Int32)).toNatClampNeg) M130) fun r131 M132 =>
  if r129 = r131 then
  f_L_law_b18 n xs L u (x3 + 6) M132
  else
  some 0)))
  else
  if ((xs x3.toNatClampNeg) &&& (31 : Int32)) = 16 then
  m_gd (m_in (x3 + (1 : Int32)) L) (
  m_gd (m_in (x3 + (2 : Int32)) L) (
  m_o2 (f_X7_best n (xs (x3 + (1 : Int32)).toNatClampNeg) (xs (x3 + (2 : Int32)).toNatClampNeg) M) fun r137 M138 =>
  m_o2 (f_X8_best n (xs (x3 + (1 : Int32)).toNatClampNeg) (xs (x3 + (2 : Int32)).toNatClampNeg) M138) fun r139 M140 =>
  if r137 = r139 then
  f_L_law_b18 n xs L u (x3 + 6) M140
  else
  some 0))
  else
  if ((xs x3.toNatClampNeg) &&& (31 : Int32)) = 17 then
  m_gd (m_in (x3 + (1 : Int32)) L) (
  m_o2 (f_X7_line n (xs (x3 + (1 : Int32)).toNatClampNeg) M) fun r144 M145 =>
  m_o2 (f_X8_line n (xs (x3 + (1 : Int32)).toNatClampNeg) M145) fun r146 M147 =>
  if r144 = r146 then
  f_L_law_b18 n xs L u (x3 + 6) M147
  else
  some 0)
  else
  if ((xs x3.toNatClampNeg) &&& (31 : Int32)) = 18 then
  m_b2 (f_X7_unline M) fun r150 M151 =>
  m_b2 (f_X8_unline M151) fun r152 M153 =>
  if r150 = r152 then
  f_L_law_b18 n xs L u (x3 + 6) M153
  else
  some 0
  else
  if ((xs x3.toNatClampNeg) &&& (31 : Int32)) = 19 then
  m_gd (m_in (x3 + (1 : Int32)) L) (
  m_gd (m_in (x3 + (2 : Int32)) L) (
  m_o2 (f_X7_served n (xs (x3 + (1 : Int32)).toNatClampNeg) (xs (x3 + (2 : Int32)).toNatClampNeg) M) fun r158 M159 =>
  m_o2 (f_X8_served n (xs (x3 + (1 : Int32)).toNatClampNeg) (xs (x3 + (2 : Int32)).toNatClampNeg) M159) fun r160 M161 =>
  if r158 = r160 then
  f_L_law_b18 n xs L u (x3 + 6) M161
  else
  some 0))
  else
  if ((xs x3.toNatClampNeg) &&& (31 : Int32)) = 20 then
  m_gd (m_in (x3 + (1 : Int32)) L) (
  m_gd (m_in (x3 + (2 : Int32)) L) (
  m_gd (m_in (x3 + (3 : Int32)) L) (
  m_o2 (f_X7_orders n (xs (x3 + (1 : Int32)).toNatClampNeg) (xs (x3 + (2 : Int32)).toNatClampNeg) (xs (x3 + (3 : Int32)).toNatClampNeg) M) fun r167 M168 =>
  m_o2 (f_X8_orders n (xs (x3 + (1 : Int32)).toNatClampNeg) (xs (x3 + (2 : Int32)).toNatClampNeg) (xs (x3 + (3 : Int32)).toNatClampNeg) M168) fun r169 M170 =>
  if r167 = r169 then
  f_L_law_b18 n xs L u (x3 + 6) M170
  else
  some 0)))
  else
  if ((xs x3.toNatClampNeg) &&& (31 : Int32)) = 21 then
  m_gd (m_in (x3 + (1 : Int32)) L) (
  m_gd (m_in (x3 + (2 : Int32)) L) (
  m_o2 (f_X7_rests n (xs (x3 + (1 : Int32)).toNatClampNeg) (xs (x3 + (2 : Int32)).toNatClampNeg) M) fun r175 M176 =>
  m_o2 (f_X8_rests n (xs (x3 + (1 : Int32)).toNatClampNeg) (xs (x3 + (2 : Int32)).toNatClampNeg) M176) fun r177 M178 =>
  if r175 = r177 then
  f_L_law_b18 n xs L u (x3 + 6) M178
  else
  some 0))
  else
  if ((xs x3.toNatClampNeg) &&& (31 : Int32)) = 22 then
  m_gd (m_in (x3 + (1 : Int32)) L) (
  m_gd (m_in (x3 + (2 : Int32)) L) (
  m_gd (m_in (x3 + (3 : Int32)) L) (
  m_o2 (f_X7_wise n (xs (x3 + (1 : Int32)).toNatClampNeg) (xs (x3 + (2 : Int32)).toNatClampNeg) (xs (x3 + (3 : Int32)).toNatClampNeg) M) fun r184 M185 =>
  m_o2 (f_X8_wise n (xs (x3 + (1 : Int32)).toNatClampNeg) (xs (x3 + (2 : Int32)).toNatClampNeg) (xs (x3 + (3 : Int32)).toNatClampNeg) M185) fun r186 M187 =>
  if r184 = r186 then
  f_L_law_b18 n xs L u (x3 + 6) M187
  else
  some 0)))
  else
  if ((xs x3.toNatClampNeg) &&& (31 : Int32)) = 23 then
  m_gd (m_in (x3 + (1 : Int32)) L) (
  m_gd (m_in (x3 + (2 : Int32)) L) (
  m_gd (m_in (x3 + (3 : Int32)) L) (
  m_gd (m_in (x3 + (4 : Int32)) L) (
  m_o2 (f_X7_sure n (xs (x3 + (1 : Int32)).toNatClampNeg) (xs (x3 + (2 : Int32)).toNatClampNeg) (xs (x3 + (3 : Int32)).toNatClampNeg) (xs (x3 + (4 : Int32)).toNatClampNeg) M) fun r194 M195 =>
  m_o2 (f_X8_sure n (xs (x3 + (1 : Int32)).toNatClampNeg) (xs (x3 + (2 : Int32)).toNatClampNeg) (xs (x3 + (3 : Int32)).toNatClampNeg) (xs (x3 + (4 : Int32)).toNatClampNeg) M195) fun r196 M197 =>
  if r194 = r196 then
  f_L_law_b18 n xs L u (x3 + 6) M197
  else
  some 0))))
  else
  if ((xs x3.toNatClampNeg) &&& (31 : Int32)) = 24 then
  m_gd (m_in (x3 + (1 : Int32)) L) (
  m_gd (m_in (x3 + (2 : Int32)) L) (
  m_gd (m_in (x3 + (3 : Int32)) L) (
  m_o2 (f_X7_hangs n (xs (x3 + (1 : Int32)).toNatClampNeg) (xs (x3 + (2 : Int32)).toNatClampNeg) (xs (x3 + (3 : Int32)).toNatClampNeg) M) fun r203 M204 =>
  m_o2 (f_X8_hangs n (xs (x3 + (1 : Int32)).toNatClampNeg) (xs (x3 + (2 : Int32)).toNatClampNeg) (xs (x3 + (3 : Int32)).toNatClampNeg) M204) fun r205 M206 =>
  if r203 = r205 then
  f_L_law_b18 n xs L u (x3 + 6) M206
  else
  some 0)))
  else
  if ((xs x3.toNatClampNeg) &&& (31 : Int32)) = 25 then
  m_gd (m_in (x3 + (1 : Int32)) L) (
  m_o2 (f_X7_parted n (xs (x3 + (1 : Int32)).toNatClampNeg) M) fun r210 M211 =>
  m_o2 (f_X8_parted n (xs (x3 + (1 : Int32)).toNatClampNeg) M211) fun r212 M213 =>
  if r210 = r212 then
  f_L_law_b18 n xs L u (x3 + 6) M213
  else
  some 0)
  else
  if ((xs x3.toNatClampNeg) &&& (31 : Int32)) = 26 then
  m_gd (m_in (x3 + (1 : Int32)) L) (
  m_bd (f_X7_part (xs (x3 + (1 : Int32)).toNatClampNeg) M) fun r217 =>
  m_bd (f_X8_part (xs (x3 + (1 : Int32)).toNatClampNeg) M) fun r218 =>
  if r217 = r218 then
  f_L_law_b18 n xs L u (x3 + 6) M
  else
  some 0)
  else
  if ((xs x3.toNatClampNeg) &&& (31 : Int32)) = 27 then
  m_gd (m_in (x3 + (1 : Int32)) L) (
  m_gd (m_in (x3 + (2 : Int32)) L) (
  m_ob (f_X7_told (xs (x3 + (1 : Int32)).toNatClampNeg) (xs (x3 + (2 : Int32)).toNatClampNeg) M) fun r223 =>
  m_ob (f_X8_told (xs (x3 + (1 : Int32)).toNatClampNeg) (xs (x3 + (2 : Int32)).toNatClampNeg) M) fun r224 =>
  if r223 = r224 then
  f_L_law_b18 n xs L u (x3 + 6) M
  else
  some 0))
  else
  if ((xs x3.toNatClampNeg) &&& (31 : Int32)) = 28 then
  m_gd (m_in (x3 + (1 : Int32)) L) (
  m_o2 (f_X7_image n (xs (x3 + (1 : Int32)).toNatClampNeg) M) fun r228 M229 =>
  m_o2 (f_X8_image n (xs (x3 + (1 : Int32)).toNatClampNeg) M229) fun r230 M231 =>
  if r228 = r230 then
  f_L_law_b18 n xs L u (x3 + 6) M231
  else
  some 0)
  else
  if ((xs x3.toNatClampNeg) &&& (31 : Int32)) = 29 then
  m_gd (m_in (x3 + (1 : Int32)) L) (
  m_o2 (f_X7_from n (xs (x3 + (1 : Int32)).toNatClampNeg) M) fun r235 M236 =>
  m_o2 (f_X8_from n (xs (x3 + (1 : Int32)).toNatClampNeg) M236) fun r237 M238 =>
  if r235 = r237 then
  f_L_law_b18 n xs L u (x3 + 6) M238
  else
  some 0)
  else
  if ((xs x3.toNatClampNeg) &&& (31 : Int32)) = 30 then
  m_gd (m_in (x3 + (1 : Int32)) L) (
  m_bd (f_X7_count (xs (x3 + (1 : Int32)).toNatClampNeg) M) fun r242 =>
  m_o2 (f_X8_count n (xs (x3 + (1 : Int32)).toNatClampNeg) M) fun r243 M244 =>
  if r242 = r243 then
  f_L_law_b18 n xs L u (x3 + 6) M244
  else
  some 0)
  else
  if ((xs x3.toNatClampNeg) &&& (31 : Int32)) = 31 then
  m_o2 (f_X7_digest n M) fun r247 M248 =>
  m_o2 (f_X8_digest n M248) fun r249 M250 =>
  if r247 = r249 then
  f_L_law_b18 n xs L u (x3 + 6) M250
  else
  some 0
  else
  f_L_law_b18 n xs L u (x3 + 6) M)
set_option maxHeartbeats 16000000 in
set_option maxRecDepth 100000 in
theorem w_law {p : Program} {l : Launch} {e : Env} {s : State} {m : MethodId} {below : List Frame} {meth : Method} {c : Code} {b L : Nat} {xs : Nat → Int32} {G : m_G} {n : Nat} (X : CallFix p m c cL_law 4 s #[Value.ref b] m_ws RL) (hr : meth.sig.returnType = ret) (hlk : meth.locks = false) (hSt : m_S G s) (hG : G.2.2.1 = s.heap.size) (hX : va_X b L xs s s.heap) (hbl : b < s.heap.size) (hbA : ¬ m_A G b) : ∀ (u : Nat) (x3 : Int32) (M : m_M) (H : Heap) (locs : List Loc) (ls : Array Slot), m_P G M H → va_S (m_A G) s.heap H locs → lv_has ls 4 [(0, .ref b), (1, .ref (m_ad G 0)), (2, .ref (m_ad G 172)), (3, .int x3)] → f_L_law_b18 n xs L u x3 M = some 1 → W p l e room_1 s m #[Value.ref b] below meth c H locs 1000 10000 (lw_Z below #[Value.ref b] s) (F0 m 18 ls []) := by
  have B293 : ∀ (q18 : Int32 → m_M → Option Int32) (hq18 : ∀ (x3 : Int32) (M : m_M) (H : Heap) (locs : List Loc) (ls : Array Slot), m_P G M H → va_S (m_A G) s.heap H locs → lv_has ls 4 [(0, .ref b), (1, .ref (m_ad G 0)), (2, .ref (m_ad G 172)), (3, .int x3)] → q18 x3 M = some 1 → W p l e room_1 s m #[Value.ref b] below meth c H locs 1000 10000 (lw_Z below #[Value.ref b] s) (F0 m 18 ls [])) (x3 : Int32) (s0 : Int32) (s2 : Int32) (s3 : Int32) (M : m_M) (H : Heap) (locs : List Loc) (ls : Array Slot), m_P G M H → va_S (m_A G) s.heap H locs → lv_has ls 4 [(0, .ref b), (1, .ref (m_ad G 0)), (2, .ref (m_ad G 172)), (3, .int x3)] → f_L_law_b293 n xs L q18 x3 s0 s2 s3 M = some 1 → W p l e room_1 s m #[Value.ref b] below meth c H locs 1000 10000 (lw_Z below #[Value.ref b] s) (F0 m 293 ls [.int s3, .int s2, .ref (m_ad G 172), .int s0]) := by
    intro q18 hq18 x3 s0 s2 s3 M H locs ls hP hS hl hres
    unfold f_L_law_b293 at hres
    obtain ⟨r1, M2, err1, hres⟩ := m_o2_e hres
    refine m_bi (m_cV (n := 2) (As := [.int s2, .int s3]) (rest := [.int s0]) X hSt hP hS hl.1 (c_X8_doubt l G  err1) k_c_yX8_doubt k_m_L_27 k_i_yX8_doubt k_s_yX8_doubt k_n_X8 (by decide +kernel) (m_rc8 hSt hP m_z_172) rfl rfl ⟨Nat.le_of_ble_eq_true rfl, Nat.le_of_ble_eq_true rfl⟩ (Nat.le_of_ble_eq_true rfl) ⟨Nat.le_of_ble_eq_true rfl, Nat.le_of_ble_eq_true rfl⟩ dL_law_293) hS (fun H locs hP hS => ?_)
    refine lv_icmp_eq (tgt := 1220) X.1 X.2.1 dL_law_296 (by decide) (fun hc3 => ?_) (fun hc3 => ?_)
    · have hres := m_it hres hc3
      refine lv_iinc (v := (x3 + 6)) (lv' := [(3, .int (x3 + 6)), (0, .ref b), (1, .ref (m_ad G 0)), (2, .ref (m_ad G 172))]) X.1 X.2.1 dL_law_1220 hl (k := 3) rfl rfl (by decide) rfl (fun ls hl => ?_)
      refine lv_goto (tgt := 18) X.1 X.2.1 dL_law_1223 (by decide) ?_
      exact hq18 (x3 + 6) M2 _ _ _ hP hS (lv_sub hl [1, 2, 3, 0] rfl) hres
    · have hres := m_if hres hc3
      refine lv_iconst (v := 0) X.1 X.2.1 dL_law_299 (by decide) ?_
      cases hres
  have B271 : ∀ (q18 : Int32 → m_M → Option Int32) (hq18 : ∀ (x3 : Int32) (M : m_M) (H : Heap) (locs : List Loc) (ls : Array Slot), m_P G M H → va_S (m_A G) s.heap H locs → lv_has ls 4 [(0, .ref b), (1, .ref (m_ad G 0)), (2, .ref (m_ad G 172)), (3, .int x3)] → q18 x3 M = some 1 → W p l e room_1 s m #[Value.ref b] below meth c H locs 1000 10000 (lw_Z below #[Value.ref b] s) (F0 m 18 ls [])) (x3 : Int32) (s1 : Int32) (s2 : Int32) (M : m_M) (H : Heap) (locs : List Loc) (ls : Array Slot), m_P G M H → va_S (m_A G) s.heap H locs → lv_has ls 4 [(0, .ref b), (1, .ref (m_ad G 0)), (2, .ref (m_ad G 172)), (3, .int x3)] → f_L_law_b271 n xs L q18 x3 s1 s2 M = some 1 → W p l e room_1 s m #[Value.ref b] below meth c H locs 1000 10000 (lw_Z below #[Value.ref b] s) (F0 m 271 ls [.int s2, .int s1, .ref (m_ad G 0)]) := by
    intro q18 hq18 x3 s1 s2 M H locs ls hP hS hl hres
    unfold f_L_law_b271 at hres
    obtain ⟨r4, M5, err4, hres⟩ := m_o2_e hres
    refine m_bi (m_cV (n := 2) (As := [.int s1, .int s2]) (rest := []) X hSt hP hS hl.1 (c_X7_doubt l G  err4) k_c_yX7_doubt k_m_L_23 k_i_yX7_doubt k_s_yX7_doubt k_n_X7 (by decide +kernel) (m_rc7 hSt hP m_z_0) rfl rfl ⟨Nat.le_of_ble_eq_true rfl, Nat.le_of_ble_eq_true rfl⟩ (Nat.le_of_ble_eq_true rfl) ⟨Nat.le_of_ble_eq_true rfl, Nat.le_of_ble_eq_true rfl⟩ dL_law_271) hS (fun H locs hP hS => ?_)
    refine lv_aload_n X.1 X.2.1 dL_law_274 rfl (lv_at hl 2 rfl) ?_
    refine lv_aload_n X.1 X.2.1 dL_law_275 rfl (lv_at hl 0 rfl) ?_
    refine lv_iload_n X.1 X.2.1 dL_law_276 rfl (lv_at hl 3 rfl) ?_
    refine lv_iconst (v := 1) X.1 X.2.1 dL_law_277 (by decide) ?_
    refine lv_iadd X.1 X.2.1 dL_law_278 ?_
    obtain ⟨hg6, hres⟩ := m_gd_e hres
    refine va_sld X.1 X.2.1 hX hbl hbA hS hg6 dL_law_279 ?_
    refine lv_aload_n X.1 X.2.1 dL_law_280 rfl (lv_at hl 0 rfl) ?_
    refine lv_iload_n X.1 X.2.1 dL_law_281 rfl (lv_at hl 3 rfl) ?_
    refine lv_iconst (v := 2) X.1 X.2.1 dL_law_282 (by decide) ?_
    refine lv_iadd X.1 X.2.1 dL_law_283 ?_
    obtain ⟨hg7, hres⟩ := m_gd_e hres
    refine va_sld X.1 X.2.1 hX hbl hbA hS hg7 dL_law_284 ?_
    refine lv_if_eq (tgt := 292) X.1 X.2.1 dL_law_285 (by decide) (fun hc8 => ?_) (fun hc8 => ?_)
    · have hres := m_it hres hc8
      refine lv_iconst (v := 0) X.1 X.2.1 dL_law_292 (by decide) ?_
      exact B293 q18 hq18 x3 r4 (xs (x3 + (1 : Int32)).toNatClampNeg) 0 M5 _ _ _ hP hS (lv_sub hl [0, 1, 2, 3] rfl) hres
    · have hres := m_if hres hc8
      refine lv_iconst (v := 1) X.1 X.2.1 dL_law_288 (by decide) ?_
      refine lv_goto (tgt := 293) X.1 X.2.1 dL_law_289 (by decide) ?_
      exact B293 q18 hq18 x3 r4 (xs (x3 + (1 : Int32)).toNatClampNeg) 1 M5 _ _ _ hP hS (lv_sub hl [0, 1, 2, 3] rfl) hres
  intro u
  induction u with
  | zero =>
    intro x3 M H locs ls hP hS hl hres
    cases hres
  | succ u ih =>
    intro x3 M H locs ls hP hS hl hres
    rw [f_L_law_b18] at hres
    refine lv_iload_n X.1 X.2.1 dL_law_18 rfl (lv_at hl 3 rfl) ?_
    refine lv_aload_n X.1 X.2.1 dL_law_19 rfl (lv_at hl 0 rfl) ?_
    refine va_slen X.1 X.2.1 hX hbl hbA hS dL_law_20 ?_
    refine lv_bipush (v := 6) X.1 X.2.1 dL_law_21 (by decide) ?_
    refine lv_isub X.1 X.2.1 dL_law_23 ?_
    refine lv_icmp_gt (tgt := 1226) X.1 X.2.1 dL_law_24 (by decide) (fun hc9 => ?_) (fun hc9 => ?_)
    · have hres := m_it hres hc9
      refine lv_iconst (v := 1) X.1 X.2.1 dL_law_1226 (by decide) ?_
      refine va_forget (fun q hq => by have h9 := hS.2.2 q hq; rw [← hG]; exact h9) ?_
      refine W.widen (k := 600000) (n := 7302250) (Nat.le_of_ble_eq_true rfl) (Nat.le_of_ble_eq_true rfl) ?_
      exact lw_ret X.1 X.2.1 hr hlk dL_law_1227
    · have hres := m_if hres hc9
      refine lv_aload_n X.1 X.2.1 dL_law_27 rfl (lv_at hl 0 rfl) ?_
      refine lv_iload_n X.1 X.2.1 dL_law_28 rfl (lv_at hl 3 rfl) ?_
      obtain ⟨hg10, hres⟩ := m_gd_e hres
      refine va_sld X.1 X.2.1 hX hbl hbA hS hg10 dL_law_29 ?_
      refine lv_bipush (v := 31) X.1 X.2.1 dL_law_30 (by decide) ?_
      refine lv_iand X.1 X.2.1 dL_law_32 ?_
      by_cases hc11 : ((xs x3.toNatClampNeg) &&& (31 : Int32)) = 0
      · have hres := m_it hres hc11
        refine m_tin (tgt := 176) X dL_law_33 ⟨_, hc11, by decide, by decide, rfl⟩ (by decide) ?_
        refine lv_aload_n X.1 X.2.1 dL_law_176 rfl (lv_at hl 1 rfl) ?_
        obtain ⟨r12, M13, err12, hres⟩ := m_b2_e hres
        refine m_bi (m_cV (n := 0) (As := []) (rest := []) X hSt hP hS hl.1 (c_X7_person l G  err12) k_c_yX7_person k_m_L_13 k_i_yX7_person k_s_yX7_person k_n_X7 (by decide +kernel) (m_rc7 hSt hP m_z_0) rfl rfl ⟨Nat.le_of_ble_eq_true rfl, Nat.le_of_ble_eq_true rfl⟩ (Nat.le_of_ble_eq_true rfl) ⟨Nat.le_of_ble_eq_true rfl, Nat.le_of_ble_eq_true rfl⟩ dL_law_177) hS (fun H locs hP hS => ?_)
        refine lv_aload_n X.1 X.2.1 dL_law_180 rfl (lv_at hl 2 rfl) ?_
        obtain ⟨r14, M15, err14, hres⟩ := m_b2_e hres
        refine m_bi (m_cV (n := 0) (As := []) (rest := [.int r12]) X hSt hP hS hl.1 (c_X8_person l G  err14) k_c_yX8_person k_m_L_17 k_i_yX8_person k_s_yX8_person k_n_X8 (by decide +kernel) (m_rc8 hSt hP m_z_172) rfl rfl ⟨Nat.le_of_ble_eq_true rfl, Nat.le_of_ble_eq_true rfl⟩ (Nat.le_of_ble_eq_true rfl) ⟨Nat.le_of_ble_eq_true rfl, Nat.le_of_ble_eq_true rfl⟩ dL_law_181) hS (fun H locs hP hS => ?_)
        refine lv_icmp_eq (tgt := 1220) X.1 X.2.1 dL_law_184 (by decide) (fun hc16 => ?_) (fun hc16 => ?_)
        · have hres := m_it hres hc16
          refine lv_iinc (v := (x3 + 6)) (lv' := [(3, .int (x3 + 6)), (0, .ref b), (1, .ref (m_ad G 0)), (2, .ref (m_ad G 172))]) X.1 X.2.1 dL_law_1220 hl (k := 3) rfl rfl (by decide) rfl (fun ls hl => ?_)
          refine lv_goto (tgt := 18) X.1 X.2.1 dL_law_1223 (by decide) ?_
          exact ih (x3 + 6) M15 _ _ _ hP hS (lv_sub hl [1, 2, 3, 0] rfl) hres
        · have hres := m_if hres hc16
          refine lv_iconst (v := 0) X.1 X.2.1 dL_law_187 (by decide) ?_
          cases hres
      · have hres := m_if hres hc11
        by_cases hc17 : ((xs x3.toNatClampNeg) &&& (31 : Int32)) = 1
        · have hres := m_it hres hc17
          refine m_tin (tgt := 189) X dL_law_33 ⟨_, hc17, by decide, by decide, rfl⟩ (by decide) ?_
          refine lv_aload_n X.1 X.2.1 dL_law_189 rfl (lv_at hl 1 rfl) ?_
          refine lv_aload_n X.1 X.2.1 dL_law_190 rfl (lv_at hl 0 rfl) ?_
          refine lv_iload_n X.1 X.2.1 dL_law_191 rfl (lv_at hl 3 rfl) ?_
          refine lv_iconst (v := 1) X.1 X.2.1 dL_law_192 (by decide) ?_
          refine lv_iadd X.1 X.2.1 dL_law_193 ?_
          obtain ⟨hg18, hres⟩ := m_gd_e hres
          refine va_sld X.1 X.2.1 hX hbl hbA hS hg18 dL_law_194 ?_
          refine lv_aload_n X.1 X.2.1 dL_law_195 rfl (lv_at hl 0 rfl) ?_
          refine lv_iload_n X.1 X.2.1 dL_law_196 rfl (lv_at hl 3 rfl) ?_
          refine lv_iconst (v := 2) X.1 X.2.1 dL_law_197 (by decide) ?_
          refine lv_iadd X.1 X.2.1 dL_law_198 ?_
          obtain ⟨hg19, hres⟩ := m_gd_e hres
          refine va_sld X.1 X.2.1 hX hbl hbA hS hg19 dL_law_199 ?_
          refine lv_aload_n X.1 X.2.1 dL_law_200 rfl (lv_at hl 0 rfl) ?_
          refine lv_iload_n X.1 X.2.1 dL_law_201 rfl (lv_at hl 3 rfl) ?_
          refine lv_iconst (v := 3) X.1 X.2.1 dL_law_202 (by decide) ?_
          refine lv_iadd X.1 X.2.1 dL_law_203 ?_
          obtain ⟨hg20, hres⟩ := m_gd_e hres
          refine va_sld X.1 X.2.1 hX hbl hbA hS hg20 dL_law_204 ?_
          refine lv_aload_n X.1 X.2.1 dL_law_205 rfl (lv_at hl 0 rfl) ?_
          refine lv_iload_n X.1 X.2.1 dL_law_206 rfl (lv_at hl 3 rfl) ?_
          refine lv_iconst (v := 4) X.1 X.2.1 dL_law_207 (by decide) ?_
          refine lv_iadd X.1 X.2.1 dL_law_208 ?_
          obtain ⟨hg21, hres⟩ := m_gd_e hres
          refine va_sld X.1 X.2.1 hX hbl hbA hS hg21 dL_law_209 ?_
          refine lv_aload_n X.1 X.2.1 dL_law_210 rfl (lv_at hl 0 rfl) ?_
          refine lv_iload_n X.1 X.2.1 dL_law_211 rfl (lv_at hl 3 rfl) ?_
          refine lv_iconst (v := 5) X.1 X.2.1 dL_law_212 (by decide) ?_
          refine lv_iadd X.1 X.2.1 dL_law_213 ?_
          obtain ⟨hg22, hres⟩ := m_gd_e hres
          refine va_sld X.1 X.2.1 hX hbl hbA hS hg22 dL_law_214 ?_
          obtain ⟨r23, M24, err23, hres⟩ := m_o2_e hres
          refine m_bi (m_cV (n := 5) (As := [.int (xs (x3 + (1 : Int32)).toNatClampNeg), .int (xs (x3 + (2 : Int32)).toNatClampNeg), .int (xs (x3 + (3 : Int32)).toNatClampNeg), .int (xs (x3 + (4 : Int32)).toNatClampNeg), .int (xs (x3 + (5 : Int32)).toNatClampNeg)]) (rest := []) X hSt hP hS hl.1 (c_X7_note l G  err23) k_c_yX7_note k_m_L_18 k_i_yX7_note k_s_yX7_note k_n_X7 (by decide +kernel) (m_rc7 hSt hP m_z_0) rfl rfl ⟨Nat.le_of_ble_eq_true rfl, Nat.le_of_ble_eq_true rfl⟩ (Nat.le_of_ble_eq_true rfl) ⟨Nat.le_of_ble_eq_true rfl, Nat.le_of_ble_eq_true rfl⟩ dL_law_215) hS (fun H locs hP hS => ?_)
          refine lv_aload_n X.1 X.2.1 dL_law_218 rfl (lv_at hl 2 rfl) ?_
          refine lv_aload_n X.1 X.2.1 dL_law_219 rfl (lv_at hl 0 rfl) ?_
          refine lv_iload_n X.1 X.2.1 dL_law_220 rfl (lv_at hl 3 rfl) ?_
          refine lv_iconst (v := 1) X.1 X.2.1 dL_law_221 (by decide) ?_
          refine lv_iadd X.1 X.2.1 dL_law_222 ?_
          refine va_sld X.1 X.2.1 hX hbl hbA hS hg18 dL_law_223 ?_
          refine lv_aload_n X.1 X.2.1 dL_law_224 rfl (lv_at hl 0 rfl) ?_
          refine lv_iload_n X.1 X.2.1 dL_law_225 rfl (lv_at hl 3 rfl) ?_
          refine lv_iconst (v := 2) X.1 X.2.1 dL_law_226 (by decide) ?_
          refine lv_iadd X.1 X.2.1 dL_law_227 ?_
          refine va_sld X.1 X.2.1 hX hbl hbA hS hg19 dL_law_228 ?_
          refine lv_aload_n X.1 X.2.1 dL_law_229 rfl (lv_at hl 0 rfl) ?_
          refine lv_iload_n X.1 X.2.1 dL_law_230 rfl (lv_at hl 3 rfl) ?_
          refine lv_iconst (v := 3) X.1 X.2.1 dL_law_231 (by decide) ?_
          refine lv_iadd X.1 X.2.1 dL_law_232 ?_
          refine va_sld X.1 X.2.1 hX hbl hbA hS hg20 dL_law_233 ?_
          refine lv_aload_n X.1 X.2.1 dL_law_234 rfl (lv_at hl 0 rfl) ?_
          refine lv_iload_n X.1 X.2.1 dL_law_235 rfl (lv_at hl 3 rfl) ?_
          refine lv_iconst (v := 4) X.1 X.2.1 dL_law_236 (by decide) ?_
          refine lv_iadd X.1 X.2.1 dL_law_237 ?_
          refine va_sld X.1 X.2.1 hX hbl hbA hS hg21 dL_law_238 ?_
          refine lv_aload_n X.1 X.2.1 dL_law_239 rfl (lv_at hl 0 rfl) ?_
          refine lv_iload_n X.1 X.2.1 dL_law_240 rfl (lv_at hl 3 rfl) ?_
          refine lv_iconst (v := 5) X.1 X.2.1 dL_law_241 (by decide) ?_
          refine lv_iadd X.1 X.2.1 dL_law_242 ?_
          refine va_sld X.1 X.2.1 hX hbl hbA hS hg22 dL_law_243 ?_
          obtain ⟨r25, M26, err25, hres⟩ := m_o2_e hres
          refine m_bi (m_cV (n := 5) (As := [.int (xs (x3 + (1 : Int32)).toNatClampNeg), .int (xs (x3 + (2 : Int32)).toNatClampNeg), .int (xs (x3 + (3 : Int32)).toNatClampNeg), .int (xs (x3 + (4 : Int32)).toNatClampNeg), .int (xs (x3 + (5 : Int32)).toNatClampNeg)]) (rest := [.int r23]) X hSt hP hS hl.1 (c_X8_note l G  err25) k_c_yX8_note k_m_L_22 k_i_yX8_note k_s_yX8_note k_n_X8 (by decide +kernel) (m_rc8 hSt hP m_z_172) rfl rfl ⟨Nat.le_of_ble_eq_true rfl, Nat.le_of_ble_eq_true rfl⟩ (Nat.le_of_ble_eq_true rfl) ⟨Nat.le_of_ble_eq_true rfl, Nat.le_of_ble_eq_true rfl⟩ dL_law_244) hS (fun H locs hP hS => ?_)
          refine lv_icmp_eq (tgt := 1220) X.1 X.2.1 dL_law_247 (by decide) (fun hc27 => ?_) (fun hc27 => ?_)
          · have hres := m_it hres hc27
            refine lv_iinc (v := (x3 + 6)) (lv' := [(3, .int (x3 + 6)), (0, .ref b), (1, .ref (m_ad G 0)), (2, .ref (m_ad G 172))]) X.1 X.2.1 dL_law_1220 hl (k := 3) rfl rfl (by decide) rfl (fun ls hl => ?_)
            refine lv_goto (tgt := 18) X.1 X.2.1 dL_law_1223 (by decide) ?_
            exact ih (x3 + 6) M26 _ _ _ hP hS (lv_sub hl [1, 2, 3, 0] rfl) hres
          · have hres := m_if hres hc27
            refine lv_iconst (v := 0) X.1 X.2.1 dL_law_250 (by decide) ?_
            cases hres
        · have hres := m_if hres hc17
          by_cases hc28 : ((xs x3.toNatClampNeg) &&& (31 : Int32)) = 2
          · have hres := m_it hres hc28
            refine m_tin (tgt := 252) X dL_law_33 ⟨_, hc28, by decide, by decide, rfl⟩ (by decide) ?_
            refine lv_aload_n X.1 X.2.1 dL_law_252 rfl (lv_at hl 1 rfl) ?_
            refine lv_aload_n X.1 X.2.1 dL_law_253 rfl (lv_at hl 0 rfl) ?_
            refine lv_iload_n X.1 X.2.1 dL_law_254 rfl (lv_at hl 3 rfl) ?_
            refine lv_iconst (v := 1) X.1 X.2.1 dL_law_255 (by decide) ?_
            refine lv_iadd X.1 X.2.1 dL_law_256 ?_
            obtain ⟨hg29, hres⟩ := m_gd_e hres
            refine va_sld X.1 X.2.1 hX hbl hbA hS hg29 dL_law_257 ?_
            refine lv_aload_n X.1 X.2.1 dL_law_258 rfl (lv_at hl 0 rfl) ?_
            refine lv_iload_n X.1 X.2.1 dL_law_259 rfl (lv_at hl 3 rfl) ?_
            refine lv_iconst (v := 2) X.1 X.2.1 dL_law_260 (by decide) ?_
            refine lv_iadd X.1 X.2.1 dL_law_261 ?_
            obtain ⟨hg30, hres⟩ := m_gd_e hres
            refine va_sld X.1 X.2.1 hX hbl hbA hS hg30 dL_law_262 ?_
            refine lv_if_eq (tgt := 270) X.1 X.2.1 dL_law_263 (by decide) (fun hc31 => ?_) (fun hc31 => ?_)
            · have hres := m_it hres hc31
              refine lv_iconst (v := 0) X.1 X.2.1 dL_law_270 (by decide) ?_
              exact B271 (f_L_law_b18 n xs L u) ih x3 (xs (x3 + (1 : Int32)).toNatClampNeg) 0 M _ _ _ hP hS (lv_sub hl [0, 1, 2, 3] rfl) hres
            · have hres := m_if hres hc31
              refine lv_iconst (v := 1) X.1 X.2.1 dL_law_266 (by decide) ?_
              refine lv_goto (tgt := 271) X.1 X.2.1 dL_law_267 (by decide) ?_
              exact B271 (f_L_law_b18 n xs L u) ih x3 (xs (x3 + (1 : Int32)).toNatClampNeg) 1 M _ _ _ hP hS (lv_sub hl [0, 1, 2, 3] rfl) hres
          · have hres := m_if hres hc28
            by_cases hc32 : ((xs x3.toNatClampNeg) &&& (31 : Int32)) = 3
            · have hres := m_it hres hc32
              refine m_tin (tgt := 301) X dL_law_33 ⟨_, hc32, by decide, by decide, rfl⟩ (by decide) ?_
              refine lv_aload_n X.1 X.2.1 dL_law_301 rfl (lv_at hl 1 rfl) ?_
              refine lv_aload_n X.1 X.2.1 dL_law_302 rfl (lv_at hl 0 rfl) ?_
              refine lv_iload_n X.1 X.2.1 dL_law_303 rfl (lv_at hl 3 rfl) ?_
              refine lv_iconst (v := 1) X.1 X.2.1 dL_law_304 (by decide) ?_
              refine lv_iadd X.1 X.2.1 dL_law_305 ?_
              obtain ⟨hg33, hres⟩ := m_gd_e hres
              refine va_sld X.1 X.2.1 hX hbl hbA hS hg33 dL_law_306 ?_
              refine lv_i2l (v := (xs (x3 + (1 : Int32)).toNatClampNeg).toInt64) X.1 X.2.1 dL_law_307 rfl ?_
              refine lv_bipush (v := 32) X.1 X.2.1 dL_law_308 (by decide) ?_
              refine lv_lshl (v := (((xs (x3 + (1 : Int32)).toNatClampNeg).toInt64) <<< ((32 : Int32).toInt64 &&& 63))) X.1 X.2.1 dL_law_310 rfl ?_
              refine lv_aload_n X.1 X.2.1 dL_law_311 rfl (lv_at hl 0 rfl) ?_
              refine lv_iload_n X.1 X.2.1 dL_law_312 rfl (lv_at hl 3 rfl) ?_
              refine lv_iconst (v := 2) X.1 X.2.1 dL_law_313 (by decide) ?_
              refine lv_iadd X.1 X.2.1 dL_law_314 ?_
              obtain ⟨hg34, hres⟩ := m_gd_e hres
              refine va_sld X.1 X.2.1 hX hbl hbA hS hg34 dL_law_315 ?_
              refine lv_i2l (v := (xs (x3 + (2 : Int32)).toNatClampNeg).toInt64) X.1 X.2.1 dL_law_316 rfl ?_
              refine lv_ldc2 (v := 4294967295) X.1 X.2.1 X.2.2.2.1 (X.2.2.2.2 _ k_l_L_28) dL_law_317 ?_
              refine lv_land X.1 X.2.1 dL_law_320 ?_
              refine lv_lor X.1 X.2.1 dL_law_321 ?_
              refine lv_aload_n X.1 X.2.1 dL_law_322 rfl (lv_at hl 0 rfl) ?_
              refine lv_iload_n X.1 X.2.1 dL_law_323 rfl (lv_at hl 3 rfl) ?_
              refine lv_iconst (v := 3) X.1 X.2.1 dL_law_324 (by decide) ?_
              refine lv_iadd X.1 X.2.1 dL_law_325 ?_
              obtain ⟨hg35, hres⟩ := m_gd_e hres
              refine va_sld X.1 X.2.1 hX hbl hbA hS hg35 dL_law_326 ?_
              obtain ⟨r36, M37, err36, hres⟩ := m_o2_e hres
              refine m_bi (m_cV (n := 2) (As := [.long ((((xs (x3 + (1 : Int32)).toNatClampNeg).toInt64) <<< ((32 : Int32).toInt64 &&& 63)) ||| (((xs (x3 + (2 : Int32)).toNatClampNeg).toInt64) &&& (4294967295 : Int64))), .int (xs (x3 + (3 : Int32)).toNatClampNeg)]) (rest := []) X hSt hP hS hl.1 (c_X7_type l G  err36) k_c_yX7_type k_m_L_30 k_i_yX7_type k_s_yX7_type k_n_X7 (by decide +kernel) (m_rc7 hSt hP m_z_0) rfl rfl ⟨Nat.le_of_ble_eq_true rfl, Nat.le_of_ble_eq_true rfl⟩ (Nat.le_of_ble_eq_true rfl) ⟨Nat.le_of_ble_eq_true rfl, Nat.le_of_ble_eq_true rfl⟩ dL_law_327) hS (fun H locs hP hS => ?_)
              refine lv_aload_n X.1 X.2.1 dL_law_330 rfl (lv_at hl 2 rfl) ?_
              refine lv_aload_n X.1 X.2.1 dL_law_331 rfl (lv_at hl 0 rfl) ?_
              refine lv_iload_n X.1 X.2.1 dL_law_332 rfl (lv_at hl 3 rfl) ?_
              refine lv_iconst (v := 1) X.1 X.2.1 dL_law_333 (by decide) ?_
              refine lv_iadd X.1 X.2.1 dL_law_334 ?_
              refine va_sld X.1 X.2.1 hX hbl hbA hS hg33 dL_law_335 ?_
              refine lv_i2l (v := (xs (x3 + (1 : Int32)).toNatClampNeg).toInt64) X.1 X.2.1 dL_law_336 rfl ?_
              refine lv_bipush (v := 32) X.1 X.2.1 dL_law_337 (by decide) ?_
              refine lv_lshl (v := (((xs (x3 + (1 : Int32)).toNatClampNeg).toInt64) <<< ((32 : Int32).toInt64 &&& 63))) X.1 X.2.1 dL_law_339 rfl ?_
              refine lv_aload_n X.1 X.2.1 dL_law_340 rfl (lv_at hl 0 rfl) ?_
              refine lv_iload_n X.1 X.2.1 dL_law_341 rfl (lv_at hl 3 rfl) ?_
              refine lv_iconst (v := 2) X.1 X.2.1 dL_law_342 (by decide) ?_
              refine lv_iadd X.1 X.2.1 dL_law_343 ?_
              refine va_sld X.1 X.2.1 hX hbl hbA hS hg34 dL_law_344 ?_
              refine lv_i2l (v := (xs (x3 + (2 : Int32)).toNatClampNeg).toInt64) X.1 X.2.1 dL_law_345 rfl ?_
              refine lv_ldc2 (v := 4294967295) X.1 X.2.1 X.2.2.2.1 (X.2.2.2.2 _ k_l_L_28) dL_law_346 ?_
              refine lv_land X.1 X.2.1 dL_law_349 ?_
              refine lv_lor X.1 X.2.1 dL_law_350 ?_
              refine lv_aload_n X.1 X.2.1 dL_law_351 rfl (lv_at hl 0 rfl) ?_
              refine lv_iload_n X.1 X.2.1 dL_law_352 rfl (lv_at hl 3 rfl) ?_
              refine lv_iconst (v := 3) X.1 X.2.1 dL_law_353 (by decide) ?_
              refine lv_iadd X.1 X.2.1 dL_law_354 ?_
              refine va_sld X.1 X.2.1 hX hbl hbA hS hg35 dL_law_355 ?_
              obtain ⟨r38, M39, err38, hres⟩ := m_o2_e hres
              refine m_bi (m_cV (n := 2) (As := [.long ((((xs (x3 + (1 : Int32)).toNatClampNeg).toInt64) <<< ((32 : Int32).toInt64 &&& 63)) ||| (((xs (x3 + (2 : Int32)).toNatClampNeg).toInt64) &&& (4294967295 : Int64))), .int (xs (x3 + (3 : Int32)).toNatClampNeg)]) (rest := [.int r36]) X hSt hP hS hl.1 (c_X8_type l G  err38) k_c_yX8_type k_m_L_34 k_i_yX8_type k_s_yX8_type k_n_X8 (by decide +kernel) (m_rc8 hSt hP m_z_172) rfl rfl ⟨Nat.le_of_ble_eq_true rfl, Nat.le_of_ble_eq_true rfl⟩ (Nat.le_of_ble_eq_true rfl) ⟨Nat.le_of_ble_eq_true rfl, Nat.le_of_ble_eq_true rfl⟩ dL_law_356) hS (fun H locs hP hS => ?_)
              refine lv_icmp_eq (tgt := 1220) X.1 X.2.1 dL_law_359 (by decide) (fun hc40 => ?_) (fun hc40 => ?_)
              · have hres := m_it hres hc40
                refine lv_iinc (v := (x3 + 6)) (lv' := [(3, .int (x3 + 6)), (0, .ref b), (1, .ref (m_ad G 0)), (2, .ref (m_ad G 172))]) X.1 X.2.1 dL_law_1220 hl (k := 3) rfl rfl (by decide) rfl (fun ls hl => ?_)
                refine lv_goto (tgt := 18) X.1 X.2.1 dL_law_1223 (by decide) ?_
                exact ih (x3 + 6) M39 _ _ _ hP hS (lv_sub hl [1, 2, 3, 0] rfl) hres
              · have hres := m_if hres hc40
                refine lv_iconst (v := 0) X.1 X.2.1 dL_law_362 (by decide) ?_
                cases hres
            · have hres := m_if hres hc32
              by_cases hc41 : ((xs x3.toNatClampNeg) &&& (31 : Int32)) = 4
              · have hres := m_it hres hc41
                refine m_tin (tgt := 364) X dL_law_33 ⟨_, hc41, by decide, by decide, rfl⟩ (by decide) ?_
                refine lv_aload_n X.1 X.2.1 dL_law_364 rfl (lv_at hl 1 rfl) ?_
                obtain ⟨r42, M43, err42, hres⟩ := m_b2_e hres
                refine m_bi (m_cV (n := 0) (As := []) (rest := []) X hSt hP hS hl.1 (c_X7_clear l G  err42) k_c_yX7_clear k_m_L_35 k_i_yX7_clear k_s_yX7_clear k_n_X7 (by decide +kernel) (m_rc7 hSt hP m_z_0) rfl rfl ⟨Nat.le_of_ble_eq_true rfl, Nat.le_of_ble_eq_true rfl⟩ (Nat.le_of_ble_eq_true rfl) ⟨Nat.le_of_ble_eq_true rfl, Nat.le_of_ble_eq_true rfl⟩ dL_law_365) hS (fun H locs hP hS => ?_)
                refine lv_aload_n X.1 X.2.1 dL_law_368 rfl (lv_at hl 2 rfl) ?_
                obtain ⟨r44, M45, err44, hres⟩ := m_b2_e hres
                refine m_bi (m_cV (n := 0) (As := []) (rest := [.int r42]) X hSt hP hS hl.1 (c_X8_clear l G  err44) k_c_yX8_clear k_m_L_38 k_i_yX8_clear k_s_yX8_clear k_n_X8 (by decide +kernel) (m_rc8 hSt hP m_z_172) rfl rfl ⟨Nat.le_of_ble_eq_true rfl, Nat.le_of_ble_eq_true rfl⟩ (Nat.le_of_ble_eq_true rfl) ⟨Nat.le_of_ble_eq_true rfl, Nat.le_of_ble_eq_true rfl⟩ dL_law_369) hS (fun H locs hP hS => ?_)
                refine lv_icmp_eq (tgt := 1220) X.1 X.2.1 dL_law_372 (by decide) (fun hc46 => ?_) (fun hc46 => ?_)
                · have hres := m_it hres hc46
                  refine lv_iinc (v := (x3 + 6)) (lv' := [(3, .int (x3 + 6)), (0, .ref b), (1, .ref (m_ad G 0)), (2, .ref (m_ad G 172))]) X.1 X.2.1 dL_law_1220 hl (k := 3) rfl rfl (by decide) rfl (fun ls hl => ?_)
                  refine lv_goto (tgt := 18) X.1 X.2.1 dL_law_1223 (by decide) ?_
                  exact ih (x3 + 6) M45 _ _ _ hP hS (lv_sub hl [1, 2, 3, 0] rfl) hres
                · have hres := m_if hres hc46
                  refine lv_iconst (v := 0) X.1 X.2.1 dL_law_375 (by decide) ?_
                  cases hres
              · have hres := m_if hres hc41
                by_cases hc47 : ((xs x3.toNatClampNeg) &&& (31 : Int32)) = 5
                · have hres := m_it hres hc47
                  refine m_tin (tgt := 377) X dL_law_33 ⟨_, hc47, by decide, by decide, rfl⟩ (by decide) ?_
                  refine lv_aload_n X.1 X.2.1 dL_law_377 rfl (lv_at hl 1 rfl) ?_
                  obtain ⟨r48, M49, err48, hres⟩ := m_o2_e hres
                  refine m_bi (m_cV (n := 0) (As := []) (rest := []) X hSt hP hS hl.1 (c_X7_read l G  err48) k_c_yX7_read k_m_L_39 k_i_yX7_read k_s_yX7_read k_n_X7 (by decide +kernel) (m_rc7 hSt hP m_z_0) rfl rfl ⟨Nat.le_of_ble_eq_true rfl, Nat.le_of_ble_eq_true rfl⟩ (Nat.le_of_ble_eq_true rfl) ⟨Nat.le_of_ble_eq_true rfl, Nat.le_of_ble_eq_true rfl⟩ dL_law_378) hS (fun H locs hP hS => ?_)
                  refine lv_aload_n X.1 X.2.1 dL_law_381 rfl (lv_at hl 2 rfl) ?_
                  obtain ⟨r50, M51, err50, hres⟩ := m_o2_e hres
                  refine m_bi (m_cV (n := 0) (As := []) (rest := [.int r48]) X hSt hP hS hl.1 (c_X8_read l G  err50) k_c_yX8_read k_m_L_42 k_i_yX8_read k_s_yX8_read k_n_X8 (by decide +kernel) (m_rc8 hSt hP m_z_172) rfl rfl ⟨Nat.le_of_ble_eq_true rfl, Nat.le_of_ble_eq_true rfl⟩ (Nat.le_of_ble_eq_true rfl) ⟨Nat.le_of_ble_eq_true rfl, Nat.le_of_ble_eq_true rfl⟩ dL_law_382) hS (fun H locs hP hS => ?_)
                  refine lv_icmp_eq (tgt := 1220) X.1 X.2.1 dL_law_385 (by decide) (fun hc52 => ?_) (fun hc52 => ?_)
                  · have hres := m_it hres hc52
                    refine lv_iinc (v := (x3 + 6)) (lv' := [(3, .int (x3 + 6)), (0, .ref b), (1, .ref (m_ad G 0)), (2, .ref (m_ad G 172))]) X.1 X.2.1 dL_law_1220 hl (k := 3) rfl rfl (by decide) rfl (fun ls hl => ?_)
                    refine lv_goto (tgt := 18) X.1 X.2.1 dL_law_1223 (by decide) ?_
                    exact ih (x3 + 6) M51 _ _ _ hP hS (lv_sub hl [1, 2, 3, 0] rfl) hres
                  · have hres := m_if hres hc52
                    refine lv_iconst (v := 0) X.1 X.2.1 dL_law_388 (by decide) ?_
                    cases hres
                · have hres := m_if hres hc47
                  by_cases hc53 : ((xs x3.toNatClampNeg) &&& (31 : Int32)) = 6
                  · have hres := m_it hres hc53
                    refine m_tin (tgt := 390) X dL_law_33 ⟨_, hc53, by decide, by decide, rfl⟩ (by decide) ?_
                    refine lv_aload_n X.1 X.2.1 dL_law_390 rfl (lv_at hl 1 rfl) ?_
                    refine lv_aload_n X.1 X.2.1 dL_law_391 rfl (lv_at hl 0 rfl) ?_
                    refine lv_iload_n X.1 X.2.1 dL_law_392 rfl (lv_at hl 3 rfl) ?_
                    refine lv_iconst (v := 1) X.1 X.2.1 dL_law_393 (by decide) ?_
                    refine lv_iadd X.1 X.2.1 dL_law_394 ?_
                    obtain ⟨hg54, hres⟩ := m_gd_e hres
                    refine va_sld X.1 X.2.1 hX hbl hbA hS hg54 dL_law_395 ?_
                    refine lv_aload_n X.1 X.2.1 dL_law_396 rfl (lv_at hl 0 rfl) ?_
                    refine lv_iload_n X.1 X.2.1 dL_law_397 rfl (lv_at hl 3 rfl) ?_
                    refine lv_iconst (v := 2) X.1 X.2.1 dL_law_398 (by decide) ?_
                    refine lv_iadd X.1 X.2.1 dL_law_399 ?_
                    obtain ⟨hg55, hres⟩ := m_gd_e hres
                    refine va_sld X.1 X.2.1 hX hbl hbA hS hg55 dL_law_400 ?_
                    obtain ⟨r56, M57, err56, hres⟩ := m_o2_e hres
                    refine m_bi (m_cV (n := 2) (As := [.int (xs (x3 + (1 : Int32)).toNatClampNeg), .int (xs (x3 + (2 : Int32)).toNatClampNeg)]) (rest := []) X hSt hP hS hl.1 (c_X7_write l G  err56) k_c_yX7_write k_m_L_43 k_i_yX7_write k_s_yX7_write k_n_X7 (by decide +kernel) (m_rc7 hSt hP m_z_0) rfl rfl ⟨Nat.le_of_ble_eq_true rfl, Nat.le_of_ble_eq_true rfl⟩ (Nat.le_of_ble_eq_true rfl) ⟨Nat.le_of_ble_eq_true rfl, Nat.le_of_ble_eq_true rfl⟩ dL_law_401) hS (fun H locs hP hS => ?_)
                    refine lv_aload_n X.1 X.2.1 dL_law_404 rfl (lv_at hl 2 rfl) ?_
                    refine lv_aload_n X.1 X.2.1 dL_law_405 rfl (lv_at hl 0 rfl) ?_
                    refine lv_iload_n X.1 X.2.1 dL_law_406 rfl (lv_at hl 3 rfl) ?_
                    refine lv_iconst (v := 1) X.1 X.2.1 dL_law_407 (by decide) ?_
                    refine lv_iadd X.1 X.2.1 dL_law_408 ?_
                    refine va_sld X.1 X.2.1 hX hbl hbA hS hg54 dL_law_409 ?_
                    refine lv_aload_n X.1 X.2.1 dL_law_410 rfl (lv_at hl 0 rfl) ?_
                    refine lv_iload_n X.1 X.2.1 dL_law_411 rfl (lv_at hl 3 rfl) ?_
                    refine lv_iconst (v := 2) X.1 X.2.1 dL_law_412 (by decide) ?_
                    refine lv_iadd X.1 X.2.1 dL_law_413 ?_
                    refine va_sld X.1 X.2.1 hX hbl hbA hS hg55 dL_law_414 ?_
                    obtain ⟨r58, M59, err58, hres⟩ := m_o2_e hres
                    refine m_bi (m_cV (n := 2) (As := [.int (xs (x3 + (1 : Int32)).toNatClampNeg), .int (xs (x3 + (2 : Int32)).toNatClampNeg)]) (rest := [.int r56]) X hSt hP hS hl.1 (c_X8_write l G  err58) k_c_yX8_write k_m_L_47 k_i_yX8_write k_s_yX8_write k_n_X8 (by decide +kernel) (m_rc8 hSt hP m_z_172) rfl rfl ⟨Nat.le_of_ble_eq_true rfl, Nat.le_of_ble_eq_true rfl⟩ (Nat.le_of_ble_eq_true rfl) ⟨Nat.le_of_ble_eq_true rfl, Nat.le_of_ble_eq_true rfl⟩ dL_law_415) hS (fun H locs hP hS => ?_)
                    refine lv_icmp_eq (tgt := 1220) X.1 X.2.1 dL_law_418 (by decide) (fun hc60 => ?_) (fun hc60 => ?_)
                    · have hres := m_it hres hc60
                      refine lv_iinc (v := (x3 + 6)) (lv' := [(3, .int (x3 + 6)), (0, .ref b), (1, .ref (m_ad G 0)), (2, .ref (m_ad G 172))]) X.1 X.2.1 dL_law_1220 hl (k := 3) rfl rfl (by decide) rfl (fun ls hl => ?_)
                      refine lv_goto (tgt := 18) X.1 X.2.1 dL_law_1223 (by decide) ?_
                      exact ih (x3 + 6) M59 _ _ _ hP hS (lv_sub hl [1, 2, 3, 0] rfl) hres
                    · have hres := m_if hres hc60
                      refine lv_iconst (v := 0) X.1 X.2.1 dL_law_421 (by decide) ?_
                      cases hres
                  · have hres := m_if hres hc53
                    by_cases hc61 : ((xs x3.toNatClampNeg) &&& (31 : Int32)) = 7
                    · have hres := m_it hres hc61
                      refine m_tin (tgt := 423) X dL_law_33 ⟨_, hc61, by decide, by decide, rfl⟩ (by decide) ?_
                      refine lv_aload_n X.1 X.2.1 dL_law_423 rfl (lv_at hl 1 rfl) ?_
                      refine lv_aload_n X.1 X.2.1 dL_law_424 rfl (lv_at hl 0 rfl) ?_
                      refine lv_iload_n X.1 X.2.1 dL_law_425 rfl (lv_at hl 3 rfl) ?_
                      refine lv_iconst (v := 1) X.1 X.2.1 dL_law_426 (by decide) ?_
                      refine lv_iadd X.1 X.2.1 dL_law_427 ?_
                      obtain ⟨hg62, hres⟩ := m_gd_e hres
                      refine va_sld X.1 X.2.1 hX hbl hbA hS hg62 dL_law_428 ?_
                      obtain ⟨r63, M64, err63, hres⟩ := m_o2_e hres
                      refine m_bi (m_cV (n := 1) (As := [.int (xs (x3 + (1 : Int32)).toNatClampNeg)]) (rest := []) X hSt hP hS hl.1 (c_X7_erase l G  err63) k_c_yX7_erase k_m_L_48 k_i_yX7_erase k_s_yX7_erase k_n_X7 (by decide +kernel) (m_rc7 hSt hP m_z_0) rfl rfl ⟨Nat.le_of_ble_eq_true rfl, Nat.le_of_ble_eq_true rfl⟩ (Nat.le_of_ble_eq_true rfl) ⟨Nat.le_of_ble_eq_true rfl, Nat.le_of_ble_eq_true rfl⟩ dL_law_429) hS (fun H locs hP hS => ?_)
                      refine lv_aload_n X.1 X.2.1 dL_law_432 rfl (lv_at hl 2 rfl) ?_
                      refine lv_aload_n X.1 X.2.1 dL_law_433 rfl (lv_at hl 0 rfl) ?_
                      refine lv_iload_n X.1 X.2.1 dL_law_434 rfl (lv_at hl 3 rfl) ?_
                      refine lv_iconst (v := 1) X.1 X.2.1 dL_law_435 (by decide) ?_
                      refine lv_iadd X.1 X.2.1 dL_law_436 ?_
                      refine va_sld X.1 X.2.1 hX hbl hbA hS hg62 dL_law_437 ?_
                      obtain ⟨r65, M66, err65, hres⟩ := m_o2_e hres
                      refine m_bi (m_cV (n := 1) (As := [.int (xs (x3 + (1 : Int32)).toNatClampNeg)]) (rest := [.int r63]) X hSt hP hS hl.1 (c_X8_erase l G  err65) k_c_yX8_erase k_m_L_52 k_i_yX8_erase k_s_yX8_erase k_n_X8 (by decide +kernel) (m_rc8 hSt hP m_z_172) rfl rfl ⟨Nat.le_of_ble_eq_true rfl, Nat.le_of_ble_eq_true rfl⟩ (Nat.le_of_ble_eq_true rfl) ⟨Nat.le_of_ble_eq_true rfl, Nat.le_of_ble_eq_true rfl⟩ dL_law_438) hS (fun H locs hP hS => ?_)
                      refine lv_icmp_eq (tgt := 1220) X.1 X.2.1 dL_law_441 (by decide) (fun hc67 => ?_) (fun hc67 => ?_)
                      · have hres := m_it hres hc67
                        refine lv_iinc (v := (x3 + 6)) (lv' := [(3, .int (x3 + 6)), (0, .ref b), (1, .ref (m_ad G 0)), (2, .ref (m_ad G 172))]) X.1 X.2.1 dL_law_1220 hl (k := 3) rfl rfl (by decide) rfl (fun ls hl => ?_)
                        refine lv_goto (tgt := 18) X.1 X.2.1 dL_law_1223 (by decide) ?_
                        exact ih (x3 + 6) M66 _ _ _ hP hS (lv_sub hl [1, 2, 3, 0] rfl) hres
                      · have hres := m_if hres hc67
                        refine lv_iconst (v := 0) X.1 X.2.1 dL_law_444 (by decide) ?_
                        cases hres
                    · have hres := m_if hres hc61
                      by_cases hc68 : ((xs x3.toNatClampNeg) &&& (31 : Int32)) = 8
                      · have hres := m_it hres hc68
                        refine m_tin (tgt := 446) X dL_law_33 ⟨_, hc68, by decide, by decide, rfl⟩ (by decide) ?_
                        refine lv_aload_n X.1 X.2.1 dL_law_446 rfl (lv_at hl 1 rfl) ?_
                        refine lv_aload_n X.1 X.2.1 dL_law_447 rfl (lv_at hl 0 rfl) ?_
                        refine lv_iload_n X.1 X.2.1 dL_law_448 rfl (lv_at hl 3 rfl) ?_
                        refine lv_iconst (v := 1) X.1 X.2.1 dL_law_449 (by decide) ?_
                        refine lv_iadd X.1 X.2.1 dL_law_450 ?_
                        obtain ⟨hg69, hres⟩ := m_gd_e hres
                        refine va_sld X.1 X.2.1 hX hbl hbA hS hg69 dL_law_451 ?_
                        obtain ⟨r70, err70, hres⟩ := m_ob_e hres
                        refine m_bi (m_cV (n := 1) (As := [.int (xs (x3 + (1 : Int32)).toNatClampNeg)]) (rest := []) X hSt hP hS hl.1 (c_X7_fault l G  err70) k_c_yX7_fault k_m_L_53 k_i_yX7_fault k_s_yX7_fault k_n_X7 (by decide +kernel) (m_rc7 hSt hP m_z_0) rfl rfl ⟨Nat.le_of_ble_eq_true rfl, Nat.le_of_ble_eq_true rfl⟩ (Nat.le_of_ble_eq_true rfl) ⟨Nat.le_of_ble_eq_true rfl, Nat.le_of_ble_eq_true rfl⟩ dL_law_452) hS (fun H locs hP hS => ?_)
                        refine lv_aload_n X.1 X.2.1 dL_law_455 rfl (lv_at hl 2 rfl) ?_
                        refine lv_aload_n X.1 X.2.1 dL_law_456 rfl (lv_at hl 0 rfl) ?_
                        refine lv_iload_n X.1 X.2.1 dL_law_457 rfl (lv_at hl 3 rfl) ?_
                        refine lv_iconst (v := 1) X.1 X.2.1 dL_law_458 (by decide) ?_
                        refine lv_iadd X.1 X.2.1 dL_law_459 ?_
                        refine va_sld X.1 X.2.1 hX hbl hbA hS hg69 dL_law_460 ?_
                        obtain ⟨r71, M72, err71, hres⟩ := m_o2_e hres
                        refine m_bi (m_cV (n := 1) (As := [.int (xs (x3 + (1 : Int32)).toNatClampNeg)]) (rest := [.int r70]) X hSt hP hS hl.1 (c_X8_fault l G  err71) k_c_yX8_fault k_m_L_56 k_i_yX8_fault k_s_yX8_fault k_n_X8 (by decide +kernel) (m_rc8 hSt hP m_z_172) rfl rfl ⟨Nat.le_of_ble_eq_true rfl, Nat.le_of_ble_eq_true rfl⟩ (Nat.le_of_ble_eq_true rfl) ⟨Nat.le_of_ble_eq_true rfl, Nat.le_of_ble_eq_true rfl⟩ dL_law_461) hS (fun H locs hP hS => ?_)
                        refine lv_icmp_eq (tgt := 1220) X.1 X.2.1 dL_law_464 (by decide) (fun hc73 => ?_) (fun hc73 => ?_)
                        · have hres := m_it hres hc73
                          refine lv_iinc (v := (x3 + 6)) (lv' := [(3, .int (x3 + 6)), (0, .ref b), (1, .ref (m_ad G 0)), (2, .ref (m_ad G 172))]) X.1 X.2.1 dL_law_1220 hl (k := 3) rfl rfl (by decide) rfl (fun ls hl => ?_)
                          refine lv_goto (tgt := 18) X.1 X.2.1 dL_law_1223 (by decide) ?_
                          exact ih (x3 + 6) M72 _ _ _ hP hS (lv_sub hl [1, 2, 3, 0] rfl) hres
                        · have hres := m_if hres hc73
                          refine lv_iconst (v := 0) X.1 X.2.1 dL_law_467 (by decide) ?_
                          cases hres
                      · have hres := m_if hres hc68
                        by_cases hc74 : ((xs x3.toNatClampNeg) &&& (31 : Int32)) = 9
                        · have hres := m_it hres hc74
                          refine m_tin (tgt := 469) X dL_law_33 ⟨_, hc74, by decide, by decide, rfl⟩ (by decide) ?_
                          refine lv_aload_n X.1 X.2.1 dL_law_469 rfl (lv_at hl 1 rfl) ?_
                          refine lv_aload_n X.1 X.2.1 dL_law_470 rfl (lv_at hl 0 rfl) ?_
                          refine lv_iload_n X.1 X.2.1 dL_law_471 rfl (lv_at hl 3 rfl) ?_
                          refine lv_iconst (v := 1) X.1 X.2.1 dL_law_472 (by decide) ?_
                          refine lv_iadd X.1 X.2.1 dL_law_473 ?_
                          obtain ⟨hg75, hres⟩ := m_gd_e hres
                          refine va_sld X.1 X.2.1 hX hbl hbA hS hg75 dL_law_474 ?_
                          refine lv_aload_n X.1 X.2.1 dL_law_475 rfl (lv_at hl 0 rfl) ?_
                          refine lv_iload_n X.1 X.2.1 dL_law_476 rfl (lv_at hl 3 rfl) ?_
                          refine lv_iconst (v := 2) X.1 X.2.1 dL_law_477 (by decide) ?_
                          refine lv_iadd X.1 X.2.1 dL_law_478 ?_
                          obtain ⟨hg76, hres⟩ := m_gd_e hres
                          refine va_sld X.1 X.2.1 hX hbl hbA hS hg76 dL_law_479 ?_
                          obtain ⟨r77, M78, err77, hres⟩ := m_o2_e hres
                          refine m_bi (m_cV (n := 2) (As := [.int (xs (x3 + (1 : Int32)).toNatClampNeg), .int (xs (x3 + (2 : Int32)).toNatClampNeg)]) (rest := []) X hSt hP hS hl.1 (c_X7_holder l G  err77) k_c_yX7_holder k_m_L_57 k_i_yX7_holder k_s_yX7_holder k_n_X7 (by decide +kernel) (m_rc7 hSt hP m_z_0) rfl rfl ⟨Nat.le_of_ble_eq_true rfl, Nat.le_of_ble_eq_true rfl⟩ (Nat.le_of_ble_eq_true rfl) ⟨Nat.le_of_ble_eq_true rfl, Nat.le_of_ble_eq_true rfl⟩ dL_law_480) hS (fun H locs hP hS => ?_)
                          refine lv_aload_n X.1 X.2.1 dL_law_483 rfl (lv_at hl 2 rfl) ?_
                          refine lv_aload_n X.1 X.2.1 dL_law_484 rfl (lv_at hl 0 rfl) ?_
                          refine lv_iload_n X.1 X.2.1 dL_law_485 rfl (lv_at hl 3 rfl) ?_
                          refine lv_iconst (v := 1) X.1 X.2.1 dL_law_486 (by decide) ?_
                          refine lv_iadd X.1 X.2.1 dL_law_487 ?_
                          refine va_sld X.1 X.2.1 hX hbl hbA hS hg75 dL_law_488 ?_
                          refine lv_aload_n X.1 X.2.1 dL_law_489 rfl (lv_at hl 0 rfl) ?_
                          refine lv_iload_n X.1 X.2.1 dL_law_490 rfl (lv_at hl 3 rfl) ?_
                          refine lv_iconst (v := 2) X.1 X.2.1 dL_law_491 (by decide) ?_
                          refine lv_iadd X.1 X.2.1 dL_law_492 ?_
                          refine va_sld X.1 X.2.1 hX hbl hbA hS hg76 dL_law_493 ?_
                          obtain ⟨r79, M80, err79, hres⟩ := m_o2_e hres
                          refine m_bi (m_cV (n := 2) (As := [.int (xs (x3 + (1 : Int32)).toNatClampNeg), .int (xs (x3 + (2 : Int32)).toNatClampNeg)]) (rest := [.int r77]) X hSt hP hS hl.1 (c_X8_holder l G  err79) k_c_yX8_holder k_m_L_60 k_i_yX8_holder k_s_yX8_holder k_n_X8 (by decide +kernel) (m_rc8 hSt hP m_z_172) rfl rfl ⟨Nat.le_of_ble_eq_true rfl, Nat.le_of_ble_eq_true rfl⟩ (Nat.le_of_ble_eq_true rfl) ⟨Nat.le_of_ble_eq_true rfl, Nat.le_of_ble_eq_true rfl⟩ dL_law_494) hS (fun H locs hP hS => ?_)
                          refine lv_icmp_eq (tgt := 1220) X.1 X.2.1 dL_law_497 (by decide) (fun hc81 => ?_) (fun hc81 => ?_)
                          · have hres := m_it hres hc81
                            refine lv_iinc (v := (x3 + 6)) (lv' := [(3, .int (x3 + 6)), (0, .ref b), (1, .ref (m_ad G 0)), (2, .ref (m_ad G 172))]) X.1 X.2.1 dL_law_1220 hl (k := 3) rfl rfl (by decide) rfl (fun ls hl => ?_)
                            refine lv_goto (tgt := 18) X.1 X.2.1 dL_law_1223 (by decide) ?_
                            exact ih (x3 + 6) M80 _ _ _ hP hS (lv_sub hl [1, 2, 3, 0] rfl) hres
                          · have hres := m_if hres hc81
                            refine lv_iconst (v := 0) X.1 X.2.1 dL_law_500 (by decide) ?_
                            cases hres
                        · have hres := m_if hres hc74
                          by_cases hc82 : ((xs x3.toNatClampNeg) &&& (31 : Int32)) = 10
                          · have hres := m_it hres hc82
                            refine m_tin (tgt := 502) X dL_law_33 ⟨_, hc82, by decide, by decide, rfl⟩ (by decide) ?_
                            refine lv_aload_n X.1 X.2.1 dL_law_502 rfl (lv_at hl 1 rfl) ?_
                            refine lv_aload_n X.1 X.2.1 dL_law_503 rfl (lv_at hl 0 rfl) ?_
                            refine lv_iload_n X.1 X.2.1 dL_law_504 rfl (lv_at hl 3 rfl) ?_
                            refine lv_iconst (v := 1) X.1 X.2.1 dL_law_505 (by decide) ?_
                            refine lv_iadd X.1 X.2.1 dL_law_506 ?_
                            obtain ⟨hg83, hres⟩ := m_gd_e hres
                            refine va_sld X.1 X.2.1 hX hbl hbA hS hg83 dL_law_507 ?_
                            refine lv_aload_n X.1 X.2.1 dL_law_508 rfl (lv_at hl 0 rfl) ?_
                            refine lv_iload_n X.1 X.2.1 dL_law_509 rfl (lv_at hl 3 rfl) ?_
                            refine lv_iconst (v := 2) X.1 X.2.1 dL_law_510 (by decide) ?_
                            refine lv_iadd X.1 X.2.1 dL_law_511 ?_
                            obtain ⟨hg84, hres⟩ := m_gd_e hres
                            refine va_sld X.1 X.2.1 hX hbl hbA hS hg84 dL_law_512 ?_
                            refine lv_aload_n X.1 X.2.1 dL_law_513 rfl (lv_at hl 0 rfl) ?_
                            refine lv_iload_n X.1 X.2.1 dL_law_514 rfl (lv_at hl 3 rfl) ?_
                            refine lv_iconst (v := 3) X.1 X.2.1 dL_law_515 (by decide) ?_
                            refine lv_iadd X.1 X.2.1 dL_law_516 ?_
                            obtain ⟨hg85, hres⟩ := m_gd_e hres
                            refine va_sld X.1 X.2.1 hX hbl hbA hS hg85 dL_law_517 ?_
                            obtain ⟨r86, M87, err86, hres⟩ := m_o2_e hres
                            refine m_bi (m_cV (n := 3) (As := [.int (xs (x3 + (1 : Int32)).toNatClampNeg), .int (xs (x3 + (2 : Int32)).toNatClampNeg), .int (xs (x3 + (3 : Int32)).toNatClampNeg)]) (rest := []) X hSt hP hS hl.1 (c_X7_in l G  err86) k_c_yX7_in k_m_L_61 k_i_yX7_in k_s_yX7_in k_n_X7 (by decide +kernel) (m_rc7 hSt hP m_z_0) rfl rfl ⟨Nat.le_of_ble_eq_true rfl, Nat.le_of_ble_eq_true rfl⟩ (Nat.le_of_ble_eq_true rfl) ⟨Nat.le_of_ble_eq_true rfl, Nat.le_of_ble_eq_true rfl⟩ dL_law_518) hS (fun H locs hP hS => ?_)
                            refine lv_aload_n X.1 X.2.1 dL_law_521 rfl (lv_at hl 2 rfl) ?_
                            refine lv_aload_n X.1 X.2.1 dL_law_522 rfl (lv_at hl 0 rfl) ?_
                            refine lv_iload_n X.1 X.2.1 dL_law_523 rfl (lv_at hl 3 rfl) ?_
                            refine lv_iconst (v := 1) X.1 X.2.1 dL_law_524 (by decide) ?_
                            refine lv_iadd X.1 X.2.1 dL_law_525 ?_
                            refine va_sld X.1 X.2.1 hX hbl hbA hS hg83 dL_law_526 ?_
                            refine lv_aload_n X.1 X.2.1 dL_law_527 rfl (lv_at hl 0 rfl) ?_
                            refine lv_iload_n X.1 X.2.1 dL_law_528 rfl (lv_at hl 3 rfl) ?_
                            refine lv_iconst (v := 2) X.1 X.2.1 dL_law_529 (by decide) ?_
                            refine lv_iadd X.1 X.2.1 dL_law_530 ?_
                            refine va_sld X.1 X.2.1 hX hbl hbA hS hg84 dL_law_531 ?_
                            refine lv_aload_n X.1 X.2.1 dL_law_532 rfl (lv_at hl 0 rfl) ?_
                            refine lv_iload_n X.1 X.2.1 dL_law_533 rfl (lv_at hl 3 rfl) ?_
                            refine lv_iconst (v := 3) X.1 X.2.1 dL_law_534 (by decide) ?_
                            refine lv_iadd X.1 X.2.1 dL_law_535 ?_
                            refine va_sld X.1 X.2.1 hX hbl hbA hS hg85 dL_law_536 ?_
                            obtain ⟨r88, M89, err88, hres⟩ := m_o2_e hres
                            refine m_bi (m_cV (n := 3) (As := [.int (xs (x3 + (1 : Int32)).toNatClampNeg), .int (xs (x3 + (2 : Int32)).toNatClampNeg), .int (xs (x3 + (3 : Int32)).toNatClampNeg)]) (rest := [.int r86]) X hSt hP hS hl.1 (c_X8_in l G  err88) k_c_yX8_in k_m_L_65 k_i_yX8_in k_s_yX8_in k_n_X8 (by decide +kernel) (m_rc8 hSt hP m_z_172) rfl rfl ⟨Nat.le_of_ble_eq_true rfl, Nat.le_of_ble_eq_true rfl⟩ (Nat.le_of_ble_eq_true rfl) ⟨Nat.le_of_ble_eq_true rfl, Nat.le_of_ble_eq_true rfl⟩ dL_law_537) hS (fun H locs hP hS => ?_)
                            refine lv_icmp_eq (tgt := 1220) X.1 X.2.1 dL_law_540 (by decide) (fun hc90 => ?_) (fun hc90 => ?_)
                            · have hres := m_it hres hc90
                              refine lv_iinc (v := (x3 + 6)) (lv' := [(3, .int (x3 + 6)), (0, .ref b), (1, .ref (m_ad G 0)), (2, .ref (m_ad G 172))]) X.1 X.2.1 dL_law_1220 hl (k := 3) rfl rfl (by decide) rfl (fun ls hl => ?_)
                              refine lv_goto (tgt := 18) X.1 X.2.1 dL_law_1223 (by decide) ?_
                              exact ih (x3 + 6) M89 _ _ _ hP hS (lv_sub hl [1, 2, 3, 0] rfl) hres
                            · have hres := m_if hres hc90
                              refine lv_iconst (v := 0) X.1 X.2.1 dL_law_543 (by decide) ?_
                              cases hres
                          · have hres := m_if hres hc82
                            by_cases hc91 : ((xs x3.toNatClampNeg) &&& (31 : Int32)) = 11
                            · have hres := m_it hres hc91
                              refine m_tin (tgt := 545) X dL_law_33 ⟨_, hc91, by decide, by decide, rfl⟩ (by decide) ?_
                              refine lv_aload_n X.1 X.2.1 dL_law_545 rfl (lv_at hl 1 rfl) ?_
                              refine lv_aload_n X.1 X.2.1 dL_law_546 rfl (lv_at hl 0 rfl) ?_
                              refine lv_iload_n X.1 X.2.1 dL_law_547 rfl (lv_at hl 3 rfl) ?_
                              refine lv_iconst (v := 1) X.1 X.2.1 dL_law_548 (by decide) ?_
                              refine lv_iadd X.1 X.2.1 dL_law_549 ?_
                              obtain ⟨hg92, hres⟩ := m_gd_e hres
                              refine va_sld X.1 X.2.1 hX hbl hbA hS hg92 dL_law_550 ?_
                              refine lv_aload_n X.1 X.2.1 dL_law_551 rfl (lv_at hl 0 rfl) ?_
                              refine lv_iload_n X.1 X.2.1 dL_law_552 rfl (lv_at hl 3 rfl) ?_
                              refine lv_iconst (v := 2) X.1 X.2.1 dL_law_553 (by decide) ?_
                              refine lv_iadd X.1 X.2.1 dL_law_554 ?_
                              obtain ⟨hg93, hres⟩ := m_gd_e hres
                              refine va_sld X.1 X.2.1 hX hbl hbA hS hg93 dL_law_555 ?_
                              refine lv_aload_n X.1 X.2.1 dL_law_556 rfl (lv_at hl 0 rfl) ?_
                              refine lv_iload_n X.1 X.2.1 dL_law_557 rfl (lv_at hl 3 rfl) ?_
                              refine lv_iconst (v := 3) X.1 X.2.1 dL_law_558 (by decide) ?_
                              refine lv_iadd X.1 X.2.1 dL_law_559 ?_
                              obtain ⟨hg94, hres⟩ := m_gd_e hres
                              refine va_sld X.1 X.2.1 hX hbl hbA hS hg94 dL_law_560 ?_
                              obtain ⟨r95, M96, err95, hres⟩ := m_o2_e hres
                              refine m_bi (m_cV (n := 3) (As := [.int (xs (x3 + (1 : Int32)).toNatClampNeg), .int (xs (x3 + (2 : Int32)).toNatClampNeg), .int (xs (x3 + (3 : Int32)).toNatClampNeg)]) (rest := []) X hSt hP hS hl.1 (c_X7_own l G  err95) k_c_yX7_own k_m_L_66 k_i_yX7_own k_s_yX7_own k_n_X7 (by decide +kernel) (m_rc7 hSt hP m_z_0) rfl rfl ⟨Nat.le_of_ble_eq_true rfl, Nat.le_of_ble_eq_true rfl⟩ (Nat.le_of_ble_eq_true rfl) ⟨Nat.le_of_ble_eq_true rfl, Nat.le_of_ble_eq_true rfl⟩ dL_law_561) hS (fun H locs hP hS => ?_)
                              refine lv_aload_n X.1 X.2.1 dL_law_564 rfl (lv_at hl 2 rfl) ?_
                              refine lv_aload_n X.1 X.2.1 dL_law_565 rfl (lv_at hl 0 rfl) ?_
                              refine lv_iload_n X.1 X.2.1 dL_law_566 rfl (lv_at hl 3 rfl) ?_
                              refine lv_iconst (v := 1) X.1 X.2.1 dL_law_567 (by decide) ?_
                              refine lv_iadd X.1 X.2.1 dL_law_568 ?_
                              refine va_sld X.1 X.2.1 hX hbl hbA hS hg92 dL_law_569 ?_
                              refine lv_aload_n X.1 X.2.1 dL_law_570 rfl (lv_at hl 0 rfl) ?_
                              refine lv_iload_n X.1 X.2.1 dL_law_571 rfl (lv_at hl 3 rfl) ?_
                              refine lv_iconst (v := 2) X.1 X.2.1 dL_law_572 (by decide) ?_
                              refine lv_iadd X.1 X.2.1 dL_law_573 ?_
                              refine va_sld X.1 X.2.1 hX hbl hbA hS hg93 dL_law_574 ?_
                              refine lv_aload_n X.1 X.2.1 dL_law_575 rfl (lv_at hl 0 rfl) ?_
                              refine lv_iload_n X.1 X.2.1 dL_law_576 rfl (lv_at hl 3 rfl) ?_
                              refine lv_iconst (v := 3) X.1 X.2.1 dL_law_577 (by decide) ?_
                              refine lv_iadd X.1 X.2.1 dL_law_578 ?_
                              refine va_sld X.1 X.2.1 hX hbl hbA hS hg94 dL_law_579 ?_
                              obtain ⟨r97, M98, err97, hres⟩ := m_o2_e hres
                              refine m_bi (m_cV (n := 3) (As := [.int (xs (x3 + (1 : Int32)).toNatClampNeg), .int (xs (x3 + (2 : Int32)).toNatClampNeg), .int (xs (x3 + (3 : Int32)).toNatClampNeg)]) (rest := [.int r95]) X hSt hP hS hl.1 (c_X8_own l G  err97) k_c_yX8_own k_m_L_69 k_i_yX8_own k_s_yX8_own k_n_X8 (by decide +kernel) (m_rc8 hSt hP m_z_172) rfl rfl ⟨Nat.le_of_ble_eq_true rfl, Nat.le_of_ble_eq_true rfl⟩ (Nat.le_of_ble_eq_true rfl) ⟨Nat.le_of_ble_eq_true rfl, Nat.le_of_ble_eq_true rfl⟩ dL_law_580) hS (fun H locs hP hS => ?_)
                              refine lv_icmp_eq (tgt := 1220) X.1 X.2.1 dL_law_583 (by decide) (fun hc99 => ?_) (fun hc99 => ?_)
                              · have hres := m_it hres hc99
                                refine lv_iinc (v := (x3 + 6)) (lv' := [(3, .int (x3 + 6)), (0, .ref b), (1, .ref (m_ad G 0)), (2, .ref (m_ad G 172))]) X.1 X.2.1 dL_law_1220 hl (k := 3) rfl rfl (by decide) rfl (fun ls hl => ?_)
                                refine lv_goto (tgt := 18) X.1 X.2.1 dL_law_1223 (by decide) ?_
                                exact ih (x3 + 6) M98 _ _ _ hP hS (lv_sub hl [1, 2, 3, 0] rfl) hres
                              · have hres := m_if hres hc99
                                refine lv_iconst (v := 0) X.1 X.2.1 dL_law_586 (by decide) ?_
                                cases hres
                            · have hres := m_if hres hc91
                              by_cases hc100 : ((xs x3.toNatClampNeg) &&& (31 : Int32)) = 12
                              · have hres := m_it hres hc100
                                refine m_tin (tgt := 588) X dL_law_33 ⟨_, hc100, by decide, by decide, rfl⟩ (by decide) ?_
                                refine lv_aload_n X.1 X.2.1 dL_law_588 rfl (lv_at hl 1 rfl) ?_
                                refine lv_aload_n X.1 X.2.1 dL_law_589 rfl (lv_at hl 0 rfl) ?_
                                refine lv_iload_n X.1 X.2.1 dL_law_590 rfl (lv_at hl 3 rfl) ?_
                                refine lv_iconst (v := 1) X.1 X.2.1 dL_law_591 (by decide) ?_
                                refine lv_iadd X.1 X.2.1 dL_law_592 ?_
                                obtain ⟨hg101, hres⟩ := m_gd_e hres
                                refine va_sld X.1 X.2.1 hX hbl hbA hS hg101 dL_law_593 ?_
                                refine lv_aload_n X.1 X.2.1 dL_law_594 rfl (lv_at hl 0 rfl) ?_
                                refine lv_iload_n X.1 X.2.1 dL_law_595 rfl (lv_at hl 3 rfl) ?_
                                refine lv_iconst (v := 2) X.1 X.2.1 dL_law_596 (by decide) ?_
                                refine lv_iadd X.1 X.2.1 dL_law_597 ?_
                                obtain ⟨hg102, hres⟩ := m_gd_e hres
                                refine va_sld X.1 X.2.1 hX hbl hbA hS hg102 dL_law_598 ?_
                                refine lv_aload_n X.1 X.2.1 dL_law_599 rfl (lv_at hl 0 rfl) ?_
                                refine lv_iload_n X.1 X.2.1 dL_law_600 rfl (lv_at hl 3 rfl) ?_
                                refine lv_iconst (v := 3) X.1 X.2.1 dL_law_601 (by decide) ?_
                                refine lv_iadd X.1 X.2.1 dL_law_602 ?_
                                obtain ⟨hg103, hres⟩ := m_gd_e hres
                                refine va_sld X.1 X.2.1 hX hbl hbA hS hg103 dL_law_603 ?_
                                obtain ⟨r104, M105, err104, hres⟩ := m_o2_e hres
                                refine m_bi (m_cV (n := 3) (As := [.int (xs (x3 + (1 : Int32)).toNatClampNeg), .int (xs (x3 + (2 : Int32)).toNatClampNeg), .int (xs (x3 + (3 : Int32)).toNatClampNeg)]) (rest := []) X hSt hP hS hl.1 (c_X7_net l G  err104) k_c_yX7_net k_m_L_70 k_i_yX7_net k_s_yX7_net k_n_X7 (by decide +kernel) (m_rc7 hSt hP m_z_0) rfl rfl ⟨Nat.le_of_ble_eq_true rfl, Nat.le_of_ble_eq_true rfl⟩ (Nat.le_of_ble_eq_true rfl) ⟨Nat.le_of_ble_eq_true rfl, Nat.le_of_ble_eq_true rfl⟩ dL_law_604) hS (fun H locs hP hS => ?_)
                                refine lv_aload_n X.1 X.2.1 dL_law_607 rfl (lv_at hl 2 rfl) ?_
                                refine lv_aload_n X.1 X.2.1 dL_law_608 rfl (lv_at hl 0 rfl) ?_
                                refine lv_iload_n X.1 X.2.1 dL_law_609 rfl (lv_at hl 3 rfl) ?_
                                refine lv_iconst (v := 1) X.1 X.2.1 dL_law_610 (by decide) ?_
                                refine lv_iadd X.1 X.2.1 dL_law_611 ?_
                                refine va_sld X.1 X.2.1 hX hbl hbA hS hg101 dL_law_612 ?_
                                refine lv_aload_n X.1 X.2.1 dL_law_613 rfl (lv_at hl 0 rfl) ?_
                                refine lv_iload_n X.1 X.2.1 dL_law_614 rfl (lv_at hl 3 rfl) ?_
                                refine lv_iconst (v := 2) X.1 X.2.1 dL_law_615 (by decide) ?_
                                refine lv_iadd X.1 X.2.1 dL_law_616 ?_
                                refine va_sld X.1 X.2.1 hX hbl hbA hS hg102 dL_law_617 ?_
                                refine lv_aload_n X.1 X.2.1 dL_law_618 rfl (lv_at hl 0 rfl) ?_
                                refine lv_iload_n X.1 X.2.1 dL_law_619 rfl (lv_at hl 3 rfl) ?_
                                refine lv_iconst (v := 3) X.1 X.2.1 dL_law_620 (by decide) ?_
                                refine lv_iadd X.1 X.2.1 dL_law_621 ?_
                                refine va_sld X.1 X.2.1 hX hbl hbA hS hg103 dL_law_622 ?_
                                obtain ⟨r106, M107, err106, hres⟩ := m_o2_e hres
                                refine m_bi (m_cV (n := 3) (As := [.int (xs (x3 + (1 : Int32)).toNatClampNeg), .int (xs (x3 + (2 : Int32)).toNatClampNeg), .int (xs (x3 + (3 : Int32)).toNatClampNeg)]) (rest := [.int r104]) X hSt hP hS hl.1 (c_X8_net l G  err106) k_c_yX8_net k_m_L_73 k_i_yX8_net k_s_yX8_net k_n_X8 (by decide +kernel) (m_rc8 hSt hP m_z_172) rfl rfl ⟨Nat.le_of_ble_eq_true rfl, Nat.le_of_ble_eq_true rfl⟩ (Nat.le_of_ble_eq_true rfl) ⟨Nat.le_of_ble_eq_true rfl, Nat.le_of_ble_eq_true rfl⟩ dL_law_623) hS (fun H locs hP hS => ?_)
                                refine lv_icmp_eq (tgt := 1220) X.1 X.2.1 dL_law_626 (by decide) (fun hc108 => ?_) (fun hc108 => ?_)
                                · have hres := m_it hres hc108
                                  refine lv_iinc (v := (x3 + 6)) (lv' := [(3, .int (x3 + 6)), (0, .ref b), (1, .ref (m_ad G 0)), (2, .ref (m_ad G 172))]) X.1 X.2.1 dL_law_1220 hl (k := 3) rfl rfl (by decide) rfl (fun ls hl => ?_)
                                  refine lv_goto (tgt := 18) X.1 X.2.1 dL_law_1223 (by decide) ?_
                                  exact ih (x3 + 6) M107 _ _ _ hP hS (lv_sub hl [1, 2, 3, 0] rfl) hres
                                · have hres := m_if hres hc108
                                  refine lv_iconst (v := 0) X.1 X.2.1 dL_law_629 (by decide) ?_
                                  cases hres
                              · have hres := m_if hres hc100
                                by_cases hc109 : ((xs x3.toNatClampNeg) &&& (31 : Int32)) = 13
                                · have hres := m_it hres hc109
                                  refine m_tin (tgt := 631) X dL_law_33 ⟨_, hc109, by decide, by decide, rfl⟩ (by decide) ?_
                                  refine lv_aload_n X.1 X.2.1 dL_law_631 rfl (lv_at hl 1 rfl) ?_
                                  refine lv_aload_n X.1 X.2.1 dL_law_632 rfl (lv_at hl 0 rfl) ?_
                                  refine lv_iload_n X.1 X.2.1 dL_law_633 rfl (lv_at hl 3 rfl) ?_
                                  refine lv_iconst (v := 1) X.1 X.2.1 dL_law_634 (by decide) ?_
                                  refine lv_iadd X.1 X.2.1 dL_law_635 ?_
                                  obtain ⟨hg110, hres⟩ := m_gd_e hres
                                  refine va_sld X.1 X.2.1 hX hbl hbA hS hg110 dL_law_636 ?_
                                  refine lv_aload_n X.1 X.2.1 dL_law_637 rfl (lv_at hl 0 rfl) ?_
                                  refine lv_iload_n X.1 X.2.1 dL_law_638 rfl (lv_at hl 3 rfl) ?_
                                  refine lv_iconst (v := 2) X.1 X.2.1 dL_law_639 (by decide) ?_
                                  refine lv_iadd X.1 X.2.1 dL_law_640 ?_
                                  obtain ⟨hg111, hres⟩ := m_gd_e hres
                                  refine va_sld X.1 X.2.1 hX hbl hbA hS hg111 dL_law_641 ?_
                                  obtain ⟨r112, M113, err112, hres⟩ := m_o2_e hres
                                  refine m_bi (m_cV (n := 2) (As := [.int (xs (x3 + (1 : Int32)).toNatClampNeg), .int (xs (x3 + (2 : Int32)).toNatClampNeg)]) (rest := []) X hSt hP hS hl.1 (c_X7_owed l G  err112) k_c_yX7_owed k_m_L_74 k_i_yX7_owed k_s_yX7_owed k_n_X7 (by decide +kernel) (m_rc7 hSt hP m_z_0) rfl rfl ⟨Nat.le_of_ble_eq_true rfl, Nat.le_of_ble_eq_true rfl⟩ (Nat.le_of_ble_eq_true rfl) ⟨Nat.le_of_ble_eq_true rfl, Nat.le_of_ble_eq_true rfl⟩ dL_law_642) hS (fun H locs hP hS => ?_)
                                  refine lv_aload_n X.1 X.2.1 dL_law_645 rfl (lv_at hl 2 rfl) ?_
                                  refine lv_aload_n X.1 X.2.1 dL_law_646 rfl (lv_at hl 0 rfl) ?_
                                  refine lv_iload_n X.1 X.2.1 dL_law_647 rfl (lv_at hl 3 rfl) ?_
                                  refine lv_iconst (v := 1) X.1 X.2.1 dL_law_648 (by decide) ?_
                                  refine lv_iadd X.1 X.2.1 dL_law_649 ?_
                                  refine va_sld X.1 X.2.1 hX hbl hbA hS hg110 dL_law_650 ?_
                                  refine lv_aload_n X.1 X.2.1 dL_law_651 rfl (lv_at hl 0 rfl) ?_
                                  refine lv_iload_n X.1 X.2.1 dL_law_652 rfl (lv_at hl 3 rfl) ?_
                                  refine lv_iconst (v := 2) X.1 X.2.1 dL_law_653 (by decide) ?_
                                  refine lv_iadd X.1 X.2.1 dL_law_654 ?_
                                  refine va_sld X.1 X.2.1 hX hbl hbA hS hg111 dL_law_655 ?_
                                  obtain ⟨r114, M115, err114, hres⟩ := m_o2_e hres
                                  refine m_bi (m_cV (n := 2) (As := [.int (xs (x3 + (1 : Int32)).toNatClampNeg), .int (xs (x3 + (2 : Int32)).toNatClampNeg)]) (rest := [.int r112]) X hSt hP hS hl.1 (c_X8_owed l G  err114) k_c_yX8_owed k_m_L_77 k_i_yX8_owed k_s_yX8_owed k_n_X8 (by decide +kernel) (m_rc8 hSt hP m_z_172) rfl rfl ⟨Nat.le_of_ble_eq_true rfl, Nat.le_of_ble_eq_true rfl⟩ (Nat.le_of_ble_eq_true rfl) ⟨Nat.le_of_ble_eq_true rfl, Nat.le_of_ble_eq_true rfl⟩ dL_law_656) hS (fun H locs hP hS => ?_)
                                  refine lv_icmp_eq (tgt := 1220) X.1 X.2.1 dL_law_659 (by decide) (fun hc116 => ?_) (fun hc116 => ?_)
                                  · have hres := m_it hres hc116
                                    refine lv_iinc (v := (x3 + 6)) (lv' := [(3, .int (x3 + 6)), (0, .ref b), (1, .ref (m_ad G 0)), (2, .ref (m_ad G 172))]) X.1 X.2.1 dL_law_1220 hl (k := 3) rfl rfl (by decide) rfl (fun ls hl => ?_)
                                    refine lv_goto (tgt := 18) X.1 X.2.1 dL_law_1223 (by decide) ?_
                                    exact ih (x3 + 6) M115 _ _ _ hP hS (lv_sub hl [1, 2, 3, 0] rfl) hres
                                  · have hres := m_if hres hc116
                                    refine lv_iconst (v := 0) X.1 X.2.1 dL_law_662 (by decide) ?_
                                    cases hres
                                · have hres := m_if hres hc109
                                  by_cases hc117 : ((xs x3.toNatClampNeg) &&& (31 : Int32)) = 14
                                  · have hres := m_it hres hc117
                                    refine m_tin (tgt := 664) X dL_law_33 ⟨_, hc117, by decide, by decide, rfl⟩ (by decide) ?_
                                    refine lv_aload_n X.1 X.2.1 dL_law_664 rfl (lv_at hl 1 rfl) ?_
                                    refine lv_aload_n X.1 X.2.1 dL_law_665 rfl (lv_at hl 0 rfl) ?_
                                    refine lv_iload_n X.1 X.2.1 dL_law_666 rfl (lv_at hl 3 rfl) ?_
                                    refine lv_iconst (v := 1) X.1 X.2.1 dL_law_667 (by decide) ?_
                                    refine lv_iadd X.1 X.2.1 dL_law_668 ?_
                                    obtain ⟨hg118, hres⟩ := m_gd_e hres
                                    refine va_sld X.1 X.2.1 hX hbl hbA hS hg118 dL_law_669 ?_
                                    refine lv_aload_n X.1 X.2.1 dL_law_670 rfl (lv_at hl 0 rfl) ?_
                                    refine lv_iload_n X.1 X.2.1 dL_law_671 rfl (lv_at hl 3 rfl) ?_
                                    refine lv_iconst (v := 2) X.1 X.2.1 dL_law_672 (by decide) ?_
                                    refine lv_iadd X.1 X.2.1 dL_law_673 ?_
                                    obtain ⟨hg119, hres⟩ := m_gd_e hres
                                    refine va_sld X.1 X.2.1 hX hbl hbA hS hg119 dL_law_674 ?_
                                    obtain ⟨r120, M121, err120, hres⟩ := m_o2_e hres
                                    refine m_bi (m_cV (n := 2) (As := [.int (xs (x3 + (1 : Int32)).toNatClampNeg), .int (xs (x3 + (2 : Int32)).toNatClampNeg)]) (rest := []) X hSt hP hS hl.1 (c_X7_answers l G  err120) k_c_yX7_answers k_m_L_78 k_i_yX7_answers k_s_yX7_answers k_n_X7 (by decide +kernel) (m_rc7 hSt hP m_z_0) rfl rfl ⟨Nat.le_of_ble_eq_true rfl, Nat.le_of_ble_eq_true rfl⟩ (Nat.le_of_ble_eq_true rfl) ⟨Nat.le_of_ble_eq_true rfl, Nat.le_of_ble_eq_true rfl⟩ dL_law_675) hS (fun H locs hP hS => ?_)
                                    refine lv_aload_n X.1 X.2.1 dL_law_678 rfl (lv_at hl 2 rfl) ?_
                                    refine lv_aload_n X.1 X.2.1 dL_law_679 rfl (lv_at hl 0 rfl) ?_
                                    refine lv_iload_n X.1 X.2.1 dL_law_680 rfl (lv_at hl 3 rfl) ?_
                                    refine lv_iconst (v := 1) X.1 X.2.1 dL_law_681 (by decide) ?_
                                    refine lv_iadd X.1 X.2.1 dL_law_682 ?_
                                    refine va_sld X.1 X.2.1 hX hbl hbA hS hg118 dL_law_683 ?_
                                    refine lv_aload_n X.1 X.2.1 dL_law_684 rfl (lv_at hl 0 rfl) ?_
                                    refine lv_iload_n X.1 X.2.1 dL_law_685 rfl (lv_at hl 3 rfl) ?_
                                    refine lv_iconst (v := 2) X.1 X.2.1 dL_law_686 (by decide) ?_
                                    refine lv_iadd X.1 X.2.1 dL_law_687 ?_
                                    refine va_sld X.1 X.2.1 hX hbl hbA hS hg119 dL_law_688 ?_
                                    obtain ⟨r122, M123, err122, hres⟩ := m_o2_e hres
                                    refine m_bi (m_cV (n := 2) (As := [.int (xs (x3 + (1 : Int32)).toNatClampNeg), .int (xs (x3 + (2 : Int32)).toNatClampNeg)]) (rest := [.int r120]) X hSt hP hS hl.1 (c_X8_answers l G  err122) k_c_yX8_answers k_m_L_81 k_i_yX8_answers k_s_yX8_answers k_n_X8 (by decide +kernel) (m_rc8 hSt hP m_z_172) rfl rfl ⟨Nat.le_of_ble_eq_true rfl, Nat.le_of_ble_eq_true rfl⟩ (Nat.le_of_ble_eq_true rfl) ⟨Nat.le_of_ble_eq_true rfl, Nat.le_of_ble_eq_true rfl⟩ dL_law_689) hS (fun H locs hP hS => ?_)
                                    refine lv_icmp_eq (tgt := 1220) X.1 X.2.1 dL_law_692 (by decide) (fun hc124 => ?_) (fun hc124 => ?_)
                                    · have hres := m_it hres hc124
                                      refine lv_iinc (v := (x3 + 6)) (lv' := [(3, .int (x3 + 6)), (0, .ref b), (1, .ref (m_ad G 0)), (2, .ref (m_ad G 172))]) X.1 X.2.1 dL_law_1220 hl (k := 3) rfl rfl (by decide) rfl (fun ls hl => ?_)
                                      refine lv_goto (tgt := 18) X.1 X.2.1 dL_law_1223 (by decide) ?_
                                      exact ih (x3 + 6) M123 _ _ _ hP hS (lv_sub hl [1, 2, 3, 0] rfl) hres
                                    · have hres := m_if hres hc124
                                      refine lv_iconst (v := 0) X.1 X.2.1 dL_law_695 (by decide) ?_
                                      cases hres
                                  · have hres := m_if hres hc117
                                    by_cases hc125 : ((xs x3.toNatClampNeg) &&& (31 : Int32)) = 15
                                    · have hres := m_it hres hc125
                                      refine m_tin (tgt := 697) X dL_law_33 ⟨_, hc125, by decide, by decide, rfl⟩ (by decide) ?_
                                      refine lv_aload_n X.1 X.2.1 dL_law_697 rfl (lv_at hl 1 rfl) ?_
                                      refine lv_aload_n X.1 X.2.1 dL_law_698 rfl (lv_at hl 0 rfl) ?_
                                      refine lv_iload_n X.1 X.2.1 dL_law_699 rfl (lv_at hl 3 rfl) ?_
                                      refine lv_iconst (v := 1) X.1 X.2.1 dL_law_700 (by decide) ?_
                                      refine lv_iadd X.1 X.2.1 dL_law_701 ?_
                                      obtain ⟨hg126, hres⟩ := m_gd_e hres
                                      refine va_sld X.1 X.2.1 hX hbl hbA hS hg126 dL_law_702 ?_
                                      refine lv_aload_n X.1 X.2.1 dL_law_703 rfl (lv_at hl 0 rfl) ?_
                                      refine lv_iload_n X.1 X.2.1 dL_law_704 rfl (lv_at hl 3 rfl) ?_
                                      refine lv_iconst (v := 2) X.1 X.2.1 dL_law_705 (by decide) ?_
                                      refine lv_iadd X.1 X.2.1 dL_law_706 ?_
                                      obtain ⟨hg127, hres⟩ := m_gd_e hres
                                      refine va_sld X.1 X.2.1 hX hbl hbA hS hg127 dL_law_707 ?_
                                      refine lv_aload_n X.1 X.2.1 dL_law_708 rfl (lv_at hl 0 rfl) ?_
                                      refine lv_iload_n X.1 X.2.1 dL_law_709 rfl (lv_at hl 3 rfl) ?_
                                      refine lv_iconst (v := 3) X.1 X.2.1 dL_law_710 (by decide) ?_
                                      refine lv_iadd X.1 X.2.1 dL_law_711 ?_
                                      obtain ⟨hg128, hres⟩ := m_gd_e hres
                                      refine va_sld X.1 X.2.1 hX hbl hbA hS hg128 dL_law_712 ?_
                                      obtain ⟨r129, M130, err129, hres⟩ := m_o2_e hres
                                      refine m_bi (m_cV (n := 3) (As := [.int (xs (x3 + (1 : Int32)).toNatClampNeg), .int (xs (x3 + (2 : Int32)).toNatClampNeg), .int (xs (x3 + (3 : Int32)).toNatClampNeg)]) (rest := []) X hSt hP hS hl.1 (c_X7_ask l G  err129) k_c_yX7_ask k_m_L_82 k_i_yX7_ask k_s_yX7_ask k_n_X7 (by decide +kernel) (m_rc7 hSt hP m_z_0) rfl rfl ⟨Nat.le_of_ble_eq_true rfl, Nat.le_of_ble_eq_true rfl⟩ (Nat.le_of_ble_eq_true rfl) ⟨Nat.le_of_ble_eq_true rfl, Nat.le_of_ble_eq_true rfl⟩ dL_law_713) hS (fun H locs hP hS => ?_)
                                      refine lv_aload_n X.1 X.2.1 dL_law_716 rfl (lv_at hl 2 rfl) ?_
                                      refine lv_aload_n X.1 X.2.1 dL_law_717 rfl (lv_at hl 0 rfl) ?_
                                      refine lv_iload_n X.1 X.2.1 dL_law_718 rfl (lv_at hl 3 rfl) ?_
                                      refine lv_iconst (v := 1) X.1 X.2.1 dL_law_719 (by decide) ?_
                                      refine lv_iadd X.1 X.2.1 dL_law_720 ?_
                                      refine va_sld X.1 X.2.1 hX hbl hbA hS hg126 dL_law_721 ?_
                                      refine lv_aload_n X.1 X.2.1 dL_law_722 rfl (lv_at hl 0 rfl) ?_
                                      refine lv_iload_n X.1 X.2.1 dL_law_723 rfl (lv_at hl 3 rfl) ?_
                                      refine lv_iconst (v := 2) X.1 X.2.1 dL_law_724 (by decide) ?_
                                      refine lv_iadd X.1 X.2.1 dL_law_725 ?_
                                      refine va_sld X.1 X.2.1 hX hbl hbA hS hg127 dL_law_726 ?_
                                      refine lv_aload_n X.1 X.2.1 dL_law_727 rfl (lv_at hl 0 rfl) ?_
                                      refine lv_iload_n X.1 X.2.1 dL_law_728 rfl (lv_at hl 3 rfl) ?_
                                      refine lv_iconst (v := 3) X.1 X.2.1 dL_law_729 (by decide) ?_
                                      refine lv_iadd X.1 X.2.1 dL_law_730 ?_
                                      refine va_sld X.1 X.2.1 hX hbl hbA hS hg128 dL_law_731 ?_
                                      obtain ⟨r131, M132, err131, hres⟩ := m_o2_e hres
                                      refine m_bi (m_cV (n := 3) (As := [.int (xs (x3 + (1 : Int32)).toNatClampNeg), .int (xs (x3 + (2 : Int32)).toNatClampNeg), .int (xs (x3 + (3 : Int32)).toNatClampNeg)]) (rest := [.int r129]) X hSt hP hS hl.1 (c_X8_ask l G  err131) k_c_yX8_ask k_m_L_85 k_i_yX8_ask k_s_yX8_ask k_n_X8 (by decide +kernel) (m_rc8 hSt hP m_z_172) rfl rfl ⟨Nat.le_of_ble_eq_true rfl, Nat.le_of_ble_eq_true rfl⟩ (Nat.le_of_ble_eq_true rfl) ⟨Nat.le_of_ble_eq_true rfl, Nat.le_of_ble_eq_true rfl⟩ dL_law_732) hS (fun H locs hP hS => ?_)
                                      refine lv_icmp_eq (tgt := 1220) X.1 X.2.1 dL_law_735 (by decide) (fun hc133 => ?_) (fun hc133 => ?_)
                                      · have hres := m_it hres hc133
                                        refine lv_iinc (v := (x3 + 6)) (lv' := [(3, .int (x3 + 6)), (0, .ref b), (1, .ref (m_ad G 0)), (2, .ref (m_ad G 172))]) X.1 X.2.1 dL_law_1220 hl (k := 3) rfl rfl (by decide) rfl (fun ls hl => ?_)
                                        refine lv_goto (tgt := 18) X.1 X.2.1 dL_law_1223 (by decide) ?_
                                        exact ih (x3 + 6) M132 _ _ _ hP hS (lv_sub hl [1, 2, 3, 0] rfl) hres
                                      · have hres := m_if hres hc133
                                        refine lv_iconst (v := 0) X.1 X.2.1 dL_law_738 (by decide) ?_
                                        cases hres
                                    · have hres := m_if hres hc125
                                      by_cases hc134 : ((xs x3.toNatClampNeg) &&& (31 : Int32)) = 16
                                      · have hres := m_it hres hc134
                                        refine m_tin (tgt := 740) X dL_law_33 ⟨_, hc134, by decide, by decide, rfl⟩ (by decide) ?_
                                        refine lv_aload_n X.1 X.2.1 dL_law_740 rfl (lv_at hl 1 rfl) ?_
                                        refine lv_aload_n X.1 X.2.1 dL_law_741 rfl (lv_at hl 0 rfl) ?_
                                        refine lv_iload_n X.1 X.2.1 dL_law_742 rfl (lv_at hl 3 rfl) ?_
                                        refine lv_iconst (v := 1) X.1 X.2.1 dL_law_743 (by decide) ?_
                                        refine lv_iadd X.1 X.2.1 dL_law_744 ?_
                                        obtain ⟨hg135, hres⟩ := m_gd_e hres
                                        refine va_sld X.1 X.2.1 hX hbl hbA hS hg135 dL_law_745 ?_
                                        refine lv_aload_n X.1 X.2.1 dL_law_746 rfl (lv_at hl 0 rfl) ?_
                                        refine lv_iload_n X.1 X.2.1 dL_law_747 rfl (lv_at hl 3 rfl) ?_
                                        refine lv_iconst (v := 2) X.1 X.2.1 dL_law_748 (by decide) ?_
                                        refine lv_iadd X.1 X.2.1 dL_law_749 ?_
                                        obtain ⟨hg136, hres⟩ := m_gd_e hres
                                        refine va_sld X.1 X.2.1 hX hbl hbA hS hg136 dL_law_750 ?_
                                        obtain ⟨r137, M138, err137, hres⟩ := m_o2_e hres
                                        refine m_bi (m_cV (n := 2) (As := [.int (xs (x3 + (1 : Int32)).toNatClampNeg), .int (xs (x3 + (2 : Int32)).toNatClampNeg)]) (rest := []) X hSt hP hS hl.1 (c_X7_best l G  err137) k_c_yX7_best k_m_L_86 k_i_yX7_best k_s_yX7_best k_n_X7 (by decide +kernel) (m_rc7 hSt hP m_z_0) rfl rfl ⟨Nat.le_of_ble_eq_true rfl, Nat.le_of_ble_eq_true rfl⟩ (Nat.le_of_ble_eq_true rfl) ⟨Nat.le_of_ble_eq_true rfl, Nat.le_of_ble_eq_true rfl⟩ dL_law_751) hS (fun H locs hP hS => ?_)
                                        refine lv_aload_n X.1 X.2.1 dL_law_754 rfl (lv_at hl 2 rfl) ?_
                                        refine lv_aload_n X.1 X.2.1 dL_law_755 rfl (lv_at hl 0 rfl) ?_
                                        refine lv_iload_n X.1 X.2.1 dL_law_756 rfl (lv_at hl 3 rfl) ?_
                                        refine lv_iconst (v := 1) X.1 X.2.1 dL_law_757 (by decide) ?_
                                        refine lv_iadd X.1 X.2.1 dL_law_758 ?_
                                        refine va_sld X.1 X.2.1 hX hbl hbA hS hg135 dL_law_759 ?_
                                        refine lv_aload_n X.1 X.2.1 dL_law_760 rfl (lv_at hl 0 rfl) ?_
                                        refine lv_iload_n X.1 X.2.1 dL_law_761 rfl (lv_at hl 3 rfl) ?_
                                        refine lv_iconst (v := 2) X.1 X.2.1 dL_law_762 (by decide) ?_
                                        refine lv_iadd X.1 X.2.1 dL_law_763 ?_
                                        refine va_sld X.1 X.2.1 hX hbl hbA hS hg136 dL_law_764 ?_
                                        obtain ⟨r139, M140, err139, hres⟩ := m_o2_e hres
                                        refine m_bi (m_cV (n := 2) (As := [.int (xs (x3 + (1 : Int32)).toNatClampNeg), .int (xs (x3 + (2 : Int32)).toNatClampNeg)]) (rest := [.int r137]) X hSt hP hS hl.1 (c_X8_best l G  err139) k_c_yX8_best k_m_L_89 k_i_yX8_best k_s_yX8_best k_n_X8 (by decide +kernel) (m_rc8 hSt hP m_z_172) rfl rfl ⟨Nat.le_of_ble_eq_true rfl, Nat.le_of_ble_eq_true rfl⟩ (Nat.le_of_ble_eq_true rfl) ⟨Nat.le_of_ble_eq_true rfl, Nat.le_of_ble_eq_true rfl⟩ dL_law_765) hS (fun H locs hP hS => ?_)
                                        refine lv_icmp_eq (tgt := 1220) X.1 X.2.1 dL_law_768 (by decide) (fun hc141 => ?_) (fun hc141 => ?_)
                                        · have hres := m_it hres hc141
                                          refine lv_iinc (v := (x3 + 6)) (lv' := [(3, .int (x3 + 6)), (0, .ref b), (1, .ref (m_ad G 0)), (2, .ref (m_ad G 172))]) X.1 X.2.1 dL_law_1220 hl (k := 3) rfl rfl (by decide) rfl (fun ls hl => ?_)
                                          refine lv_goto (tgt := 18) X.1 X.2.1 dL_law_1223 (by decide) ?_
                                          exact ih (x3 + 6) M140 _ _ _ hP hS (lv_sub hl [1, 2, 3, 0] rfl) hres
                                        · have hres := m_if hres hc141
                                          refine lv_iconst (v := 0) X.1 X.2.1 dL_law_771 (by decide) ?_
                                          cases hres
                                      · have hres := m_if hres hc134
                                        by_cases hc142 : ((xs x3.toNatClampNeg) &&& (31 : Int32)) = 17
                                        · have hres := m_it hres hc142
                                          refine m_tin (tgt := 773) X dL_law_33 ⟨_, hc142, by decide, by decide, rfl⟩ (by decide) ?_
                                          refine lv_aload_n X.1 X.2.1 dL_law_773 rfl (lv_at hl 1 rfl) ?_
                                          refine lv_aload_n X.1 X.2.1 dL_law_774 rfl (lv_at hl 0 rfl) ?_
                                          refine lv_iload_n X.1 X.2.1 dL_law_775 rfl (lv_at hl 3 rfl) ?_
                                          refine lv_iconst (v := 1) X.1 X.2.1 dL_law_776 (by decide) ?_
                                          refine lv_iadd X.1 X.2.1 dL_law_777 ?_
                                          obtain ⟨hg143, hres⟩ := m_gd_e hres
                                          refine va_sld X.1 X.2.1 hX hbl hbA hS hg143 dL_law_778 ?_
                                          obtain ⟨r144, M145, err144, hres⟩ := m_o2_e hres
                                          refine m_bi (m_cV (n := 1) (As := [.int (xs (x3 + (1 : Int32)).toNatClampNeg)]) (rest := []) X hSt hP hS hl.1 (c_X7_line l G  err144) k_c_yX7_line k_m_L_90 k_i_yX7_line k_s_yX7_line k_n_X7 (by decide +kernel) (m_rc7 hSt hP m_z_0) rfl rfl ⟨Nat.le_of_ble_eq_true rfl, Nat.le_of_ble_eq_true rfl⟩ (Nat.le_of_ble_eq_true rfl) ⟨Nat.le_of_ble_eq_true rfl, Nat.le_of_ble_eq_true rfl⟩ dL_law_779) hS (fun H locs hP hS => ?_)
                                          refine lv_aload_n X.1 X.2.1 dL_law_782 rfl (lv_at hl 2 rfl) ?_
                                          refine lv_aload_n X.1 X.2.1 dL_law_783 rfl (lv_at hl 0 rfl) ?_
                                          refine lv_iload_n X.1 X.2.1 dL_law_784 rfl (lv_at hl 3 rfl) ?_
                                          refine lv_iconst (v := 1) X.1 X.2.1 dL_law_785 (by decide) ?_
                                          refine lv_iadd X.1 X.2.1 dL_law_786 ?_
                                          refine va_sld X.1 X.2.1 hX hbl hbA hS hg143 dL_law_787 ?_
                                          obtain ⟨r146, M147, err146, hres⟩ := m_o2_e hres
                                          refine m_bi (m_cV (n := 1) (As := [.int (xs (x3 + (1 : Int32)).toNatClampNeg)]) (rest := [.int r144]) X hSt hP hS hl.1 (c_X8_line l G  err146) k_c_yX8_line k_m_L_93 k_i_yX8_line k_s_yX8_line k_n_X8 (by decide +kernel) (m_rc8 hSt hP m_z_172) rfl rfl ⟨Nat.le_of_ble_eq_true rfl, Nat.le_of_ble_eq_true rfl⟩ (Nat.le_of_ble_eq_true rfl) ⟨Nat.le_of_ble_eq_true rfl, Nat.le_of_ble_eq_true rfl⟩ dL_law_788) hS (fun H locs hP hS => ?_)
                                          refine lv_icmp_eq (tgt := 1220) X.1 X.2.1 dL_law_791 (by decide) (fun hc148 => ?_) (fun hc148 => ?_)
                                          · have hres := m_it hres hc148
                                            refine lv_iinc (v := (x3 + 6)) (lv' := [(3, .int (x3 + 6)), (0, .ref b), (1, .ref (m_ad G 0)), (2, .ref (m_ad G 172))]) X.1 X.2.1 dL_law_1220 hl (k := 3) rfl rfl (by decide) rfl (fun ls hl => ?_)
                                            refine lv_goto (tgt := 18) X.1 X.2.1 dL_law_1223 (by decide) ?_
                                            exact ih (x3 + 6) M147 _ _ _ hP hS (lv_sub hl [1, 2, 3, 0] rfl) hres
                                          · have hres := m_if hres hc148
                                            refine lv_iconst (v := 0) X.1 X.2.1 dL_law_794 (by decide) ?_
                                            cases hres
                                        · have hres := m_if hres hc142
                                          by_cases hc149 : ((xs x3.toNatClampNeg) &&& (31 : Int32)) = 18
                                          · have hres := m_it hres hc149
                                            refine m_tin (tgt := 796) X dL_law_33 ⟨_, hc149, by decide, by decide, rfl⟩ (by decide) ?_
                                            refine lv_aload_n X.1 X.2.1 dL_law_796 rfl (lv_at hl 1 rfl) ?_
                                            obtain ⟨r150, M151, err150, hres⟩ := m_b2_e hres
                                            refine m_bi (m_cV (n := 0) (As := []) (rest := []) X hSt hP hS hl.1 (c_X7_unline l G  err150) k_c_yX7_unline k_m_L_94 k_i_yX7_unline k_s_yX7_unline k_n_X7 (by decide +kernel) (m_rc7 hSt hP m_z_0) rfl rfl ⟨Nat.le_of_ble_eq_true rfl, Nat.le_of_ble_eq_true rfl⟩ (Nat.le_of_ble_eq_true rfl) ⟨Nat.le_of_ble_eq_true rfl, Nat.le_of_ble_eq_true rfl⟩ dL_law_797) hS (fun H locs hP hS => ?_)
                                            refine lv_aload_n X.1 X.2.1 dL_law_800 rfl (lv_at hl 2 rfl) ?_
                                            obtain ⟨r152, M153, err152, hres⟩ := m_b2_e hres
                                            refine m_bi (m_cV (n := 0) (As := []) (rest := [.int r150]) X hSt hP hS hl.1 (c_X8_unline l G  err152) k_c_yX8_unline k_m_L_97 k_i_yX8_unline k_s_yX8_unline k_n_X8 (by decide +kernel) (m_rc8 hSt hP m_z_172) rfl rfl ⟨Nat.le_of_ble_eq_true rfl, Nat.le_of_ble_eq_true rfl⟩ (Nat.le_of_ble_eq_true rfl) ⟨Nat.le_of_ble_eq_true rfl, Nat.le_of_ble_eq_true rfl⟩ dL_law_801) hS (fun H locs hP hS => ?_)
                                            refine lv_icmp_eq (tgt := 1220) X.1 X.2.1 dL_law_804 (by decide) (fun hc154 => ?_) (fun hc154 => ?_)
                                            · have hres := m_it hres hc154
                                              refine lv_iinc (v := (x3 + 6)) (lv' := [(3, .int (x3 + 6)), (0, .ref b), (1, .ref (m_ad G 0)), (2, .ref (m_ad G 172))]) X.1 X.2.1 dL_law_1220 hl (k := 3) rfl rfl (by decide) rfl (fun ls hl => ?_)
                                              refine lv_goto (tgt := 18) X.1 X.2.1 dL_law_1223 (by decide) ?_
                                              exact ih (x3 + 6) M153 _ _ _ hP hS (lv_sub hl [1, 2, 3, 0] rfl) hres
                                            · have hres := m_if hres hc154
                                              refine lv_iconst (v := 0) X.1 X.2.1 dL_law_807 (by decide) ?_
                                              cases hres
                                          · have hres := m_if hres hc149
                                            by_cases hc155 : ((xs x3.toNatClampNeg) &&& (31 : Int32)) = 19
                                            · have hres := m_it hres hc155
                                              refine m_tin (tgt := 809) X dL_law_33 ⟨_, hc155, by decide, by decide, rfl⟩ (by decide) ?_
                                              refine lv_aload_n X.1 X.2.1 dL_law_809 rfl (lv_at hl 1 rfl) ?_
                                              refine lv_aload_n X.1 X.2.1 dL_law_810 rfl (lv_at hl 0 rfl) ?_
                                              refine lv_iload_n X.1 X.2.1 dL_law_811 rfl (lv_at hl 3 rfl) ?_
                                              refine lv_iconst (v := 1) X.1 X.2.1 dL_law_812 (by decide) ?_
                                              refine lv_iadd X.1 X.2.1 dL_law_813 ?_
                                              obtain ⟨hg156, hres⟩ := m_gd_e hres
                                              refine va_sld X.1 X.2.1 hX hbl hbA hS hg156 dL_law_814 ?_
                                              refine lv_aload_n X.1 X.2.1 dL_law_815 rfl (lv_at hl 0 rfl) ?_
                                              refine lv_iload_n X.1 X.2.1 dL_law_816 rfl (lv_at hl 3 rfl) ?_
                                              refine lv_iconst (v := 2) X.1 X.2.1 dL_law_817 (by decide) ?_
                                              refine lv_iadd X.1 X.2.1 dL_law_818 ?_
                                              obtain ⟨hg157, hres⟩ := m_gd_e hres
                                              refine va_sld X.1 X.2.1 hX hbl hbA hS hg157 dL_law_819 ?_
                                              obtain ⟨r158, M159, err158, hres⟩ := m_o2_e hres
                                              refine m_bi (m_cV (n := 2) (As := [.int (xs (x3 + (1 : Int32)).toNatClampNeg), .int (xs (x3 + (2 : Int32)).toNatClampNeg)]) (rest := []) X hSt hP hS hl.1 (c_X7_served l G  err158) k_c_yX7_served k_m_L_98 k_i_yX7_served k_s_yX7_served k_n_X7 (by decide +kernel) (m_rc7 hSt hP m_z_0) rfl rfl ⟨Nat.le_of_ble_eq_true rfl, Nat.le_of_ble_eq_true rfl⟩ (Nat.le_of_ble_eq_true rfl) ⟨Nat.le_of_ble_eq_true rfl, Nat.le_of_ble_eq_true rfl⟩ dL_law_820) hS (fun H locs hP hS => ?_)
                                              refine lv_aload_n X.1 X.2.1 dL_law_823 rfl (lv_at hl 2 rfl) ?_
                                              refine lv_aload_n X.1 X.2.1 dL_law_824 rfl (lv_at hl 0 rfl) ?_
                                              refine lv_iload_n X.1 X.2.1 dL_law_825 rfl (lv_at hl 3 rfl) ?_
                                              refine lv_iconst (v := 1) X.1 X.2.1 dL_law_826 (by decide) ?_
                                              refine lv_iadd X.1 X.2.1 dL_law_827 ?_
                                              refine va_sld X.1 X.2.1 hX hbl hbA hS hg156 dL_law_828 ?_
                                              refine lv_aload_n X.1 X.2.1 dL_law_829 rfl (lv_at hl 0 rfl) ?_
                                              refine lv_iload_n X.1 X.2.1 dL_law_830 rfl (lv_at hl 3 rfl) ?_
                                              refine lv_iconst (v := 2) X.1 X.2.1 dL_law_831 (by decide) ?_
                                              refine lv_iadd X.1 X.2.1 dL_law_832 ?_
                                              refine va_sld X.1 X.2.1 hX hbl hbA hS hg157 dL_law_833 ?_
                                              obtain ⟨r160, M161, err160, hres⟩ := m_o2_e hres
                                              refine m_bi (m_cV (n := 2) (As := [.int (xs (x3 + (1 : Int32)).toNatClampNeg), .int (xs (x3 + (2 : Int32)).toNatClampNeg)]) (rest := [.int r158]) X hSt hP hS hl.1 (c_X8_served l G  err160) k_c_yX8_served k_m_L_101 k_i_yX8_served k_s_yX8_served k_n_X8 (by decide +kernel) (m_rc8 hSt hP m_z_172) rfl rfl ⟨Nat.le_of_ble_eq_true rfl, Nat.le_of_ble_eq_true rfl⟩ (Nat.le_of_ble_eq_true rfl) ⟨Nat.le_of_ble_eq_true rfl, Nat.le_of_ble_eq_true rfl⟩ dL_law_834) hS (fun H locs hP hS => ?_)
                                              refine lv_icmp_eq (tgt := 1220) X.1 X.2.1 dL_law_837 (by decide) (fun hc162 => ?_) (fun hc162 => ?_)
                                              · have hres := m_it hres hc162
                                                refine lv_iinc (v := (x3 + 6)) (lv' := [(3, .int (x3 + 6)), (0, .ref b), (1, .ref (m_ad G 0)), (2, .ref (m_ad G 172))]) X.1 X.2.1 dL_law_1220 hl (k := 3) rfl rfl (by decide) rfl (fun ls hl => ?_)
                                                refine lv_goto (tgt := 18) X.1 X.2.1 dL_law_1223 (by decide) ?_
                                                exact ih (x3 + 6) M161 _ _ _ hP hS (lv_sub hl [1, 2, 3, 0] rfl) hres
                                              · have hres := m_if hres hc162
                                                refine lv_iconst (v := 0) X.1 X.2.1 dL_law_840 (by decide) ?_
                                                cases hres
                                            · have hres := m_if hres hc155
                                              by_cases hc163 : ((xs x3.toNatClampNeg) &&& (31 : Int32)) = 20
                                              · have hres := m_it hres hc163
                                                refine m_tin (tgt := 842) X dL_law_33 ⟨_, hc163, by decide, by decide, rfl⟩ (by decide) ?_
                                                refine lv_aload_n X.1 X.2.1 dL_law_842 rfl (lv_at hl 1 rfl) ?_
                                                refine lv_aload_n X.1 X.2.1 dL_law_843 rfl (lv_at hl 0 rfl) ?_
                                                refine lv_iload_n X.1 X.2.1 dL_law_844 rfl (lv_at hl 3 rfl) ?_
                                                refine lv_iconst (v := 1) X.1 X.2.1 dL_law_845 (by decide) ?_
                                                refine lv_iadd X.1 X.2.1 dL_law_846 ?_
                                                obtain ⟨hg164, hres⟩ := m_gd_e hres
                                                refine va_sld X.1 X.2.1 hX hbl hbA hS hg164 dL_law_847 ?_
                                                refine lv_aload_n X.1 X.2.1 dL_law_848 rfl (lv_at hl 0 rfl) ?_
                                                refine lv_iload_n X.1 X.2.1 dL_law_849 rfl (lv_at hl 3 rfl) ?_
                                                refine lv_iconst (v := 2) X.1 X.2.1 dL_law_850 (by decide) ?_
                                                refine lv_iadd X.1 X.2.1 dL_law_851 ?_
                                                obtain ⟨hg165, hres⟩ := m_gd_e hres
                                                refine va_sld X.1 X.2.1 hX hbl hbA hS hg165 dL_law_852 ?_
                                                refine lv_aload_n X.1 X.2.1 dL_law_853 rfl (lv_at hl 0 rfl) ?_
                                                refine lv_iload_n X.1 X.2.1 dL_law_854 rfl (lv_at hl 3 rfl) ?_
                                                refine lv_iconst (v := 3) X.1 X.2.1 dL_law_855 (by decide) ?_
                                                refine lv_iadd X.1 X.2.1 dL_law_856 ?_
                                                obtain ⟨hg166, hres⟩ := m_gd_e hres
                                                refine va_sld X.1 X.2.1 hX hbl hbA hS hg166 dL_law_857 ?_
                                                obtain ⟨r167, M168, err167, hres⟩ := m_o2_e hres
                                                refine m_bi (m_cV (n := 3) (As := [.int (xs (x3 + (1 : Int32)).toNatClampNeg), .int (xs (x3 + (2 : Int32)).toNatClampNeg), .int (xs (x3 + (3 : Int32)).toNatClampNeg)]) (rest := []) X hSt hP hS hl.1 (c_X7_orders l G  err167) k_c_yX7_orders k_m_L_102 k_i_yX7_orders k_s_yX7_orders k_n_X7 (by decide +kernel) (m_rc7 hSt hP m_z_0) rfl rfl ⟨Nat.le_of_ble_eq_true rfl, Nat.le_of_ble_eq_true rfl⟩ (Nat.le_of_ble_eq_true rfl) ⟨Nat.le_of_ble_eq_true rfl, Nat.le_of_ble_eq_true rfl⟩ dL_law_858) hS (fun H locs hP hS => ?_)
                                                refine lv_aload_n X.1 X.2.1 dL_law_861 rfl (lv_at hl 2 rfl) ?_
                                                refine lv_aload_n X.1 X.2.1 dL_law_862 rfl (lv_at hl 0 rfl) ?_
                                                refine lv_iload_n X.1 X.2.1 dL_law_863 rfl (lv_at hl 3 rfl) ?_
                                                refine lv_iconst (v := 1) X.1 X.2.1 dL_law_864 (by decide) ?_
                                                refine lv_iadd X.1 X.2.1 dL_law_865 ?_
                                                refine va_sld X.1 X.2.1 hX hbl hbA hS hg164 dL_law_866 ?_
                                                refine lv_aload_n X.1 X.2.1 dL_law_867 rfl (lv_at hl 0 rfl) ?_
                                                refine lv_iload_n X.1 X.2.1 dL_law_868 rfl (lv_at hl 3 rfl) ?_
                                                refine lv_iconst (v := 2) X.1 X.2.1 dL_law_869 (by decide) ?_
                                                refine lv_iadd X.1 X.2.1 dL_law_870 ?_
                                                refine va_sld X.1 X.2.1 hX hbl hbA hS hg165 dL_law_871 ?_
                                                refine lv_aload_n X.1 X.2.1 dL_law_872 rfl (lv_at hl 0 rfl) ?_
                                                refine lv_iload_n X.1 X.2.1 dL_law_873 rfl (lv_at hl 3 rfl) ?_
                                                refine lv_iconst (v := 3) X.1 X.2.1 dL_law_874 (by decide) ?_
                                                refine lv_iadd X.1 X.2.1 dL_law_875 ?_
                                                refine va_sld X.1 X.2.1 hX hbl hbA hS hg166 dL_law_876 ?_
                                                obtain ⟨r169, M170, err169, hres⟩ := m_o2_e hres
                                                refine m_bi (m_cV (n := 3) (As := [.int (xs (x3 + (1 : Int32)).toNatClampNeg), .int (xs (x3 + (2 : Int32)).toNatClampNeg), .int (xs (x3 + (3 : Int32)).toNatClampNeg)]) (rest := [.int r167]) X hSt hP hS hl.1 (c_X8_orders l G  err169) k_c_yX8_orders k_m_L_105 k_i_yX8_orders k_s_yX8_orders k_n_X8 (by decide +kernel) (m_rc8 hSt hP m_z_172) rfl rfl ⟨Nat.le_of_ble_eq_true rfl, Nat.le_of_ble_eq_true rfl⟩ (Nat.le_of_ble_eq_true rfl) ⟨Nat.le_of_ble_eq_true rfl, Nat.le_of_ble_eq_true rfl⟩ dL_law_877) hS (fun H locs hP hS => ?_)
                                                refine lv_icmp_eq (tgt := 1220) X.1 X.2.1 dL_law_880 (by decide) (fun hc171 => ?_) (fun hc171 => ?_)
                                                · have hres := m_it hres hc171
                                                  refine lv_iinc (v := (x3 + 6)) (lv' := [(3, .int (x3 + 6)), (0, .ref b), (1, .ref (m_ad G 0)), (2, .ref (m_ad G 172))]) X.1 X.2.1 dL_law_1220 hl (k := 3) rfl rfl (by decide) rfl (fun ls hl => ?_)
                                                  refine lv_goto (tgt := 18) X.1 X.2.1 dL_law_1223 (by decide) ?_
                                                  exact ih (x3 + 6) M170 _ _ _ hP hS (lv_sub hl [1, 2, 3, 0] rfl) hres
                                                · have hres := m_if hres hc171
                                                  refine lv_iconst (v := 0) X.1 X.2.1 dL_law_883 (by decide) ?_
                                                  cases hres
                                              · have hres := m_if hres hc163
                                                by_cases hc172 : ((xs x3.toNatClampNeg) &&& (31 : Int32)) = 21
                                                · have hres := m_it hres hc172
                                                  refine m_tin (tgt := 885) X dL_law_33 ⟨_, hc172, by decide, by decide, rfl⟩ (by decide) ?_
                                                  refine lv_aload_n X.1 X.2.1 dL_law_885 rfl (lv_at hl 1 rfl) ?_
                                                  refine lv_aload_n X.1 X.2.1 dL_law_886 rfl (lv_at hl 0 rfl) ?_
                                                  refine lv_iload_n X.1 X.2.1 dL_law_887 rfl (lv_at hl 3 rfl) ?_
                                                  refine lv_iconst (v := 1) X.1 X.2.1 dL_law_888 (by decide) ?_
                                                  refine lv_iadd X.1 X.2.1 dL_law_889 ?_
                                                  obtain ⟨hg173, hres⟩ := m_gd_e hres
                                                  refine va_sld X.1 X.2.1 hX hbl hbA hS hg173 dL_law_890 ?_
                                                  refine lv_aload_n X.1 X.2.1 dL_law_891 rfl (lv_at hl 0 rfl) ?_
                                                  refine lv_iload_n X.1 X.2.1 dL_law_892 rfl (lv_at hl 3 rfl) ?_
                                                  refine lv_iconst (v := 2) X.1 X.2.1 dL_law_893 (by decide) ?_
                                                  refine lv_iadd X.1 X.2.1 dL_law_894 ?_
                                                  obtain ⟨hg174, hres⟩ := m_gd_e hres
                                                  refine va_sld X.1 X.2.1 hX hbl hbA hS hg174 dL_law_895 ?_
                                                  obtain ⟨r175, M176, err175, hres⟩ := m_o2_e hres
                                                  refine m_bi (m_cV (n := 2) (As := [.int (xs (x3 + (1 : Int32)).toNatClampNeg), .int (xs (x3 + (2 : Int32)).toNatClampNeg)]) (rest := []) X hSt hP hS hl.1 (c_X7_rests l G  err175) k_c_yX7_rests k_m_L_106 k_i_yX7_rests k_s_yX7_rests k_n_X7 (by decide +kernel) (m_rc7 hSt hP m_z_0) rfl rfl ⟨Nat.le_of_ble_eq_true rfl, Nat.le_of_ble_eq_true rfl⟩ (Nat.le_of_ble_eq_true rfl) ⟨Nat.le_of_ble_eq_true rfl, Nat.le_of_ble_eq_true rfl⟩ dL_law_896) hS (fun H locs hP hS => ?_)
                                                  refine lv_aload_n X.1 X.2.1 dL_law_899 rfl (lv_at hl 2 rfl) ?_
                                                  refine lv_aload_n X.1 X.2.1 dL_law_900 rfl (lv_at hl 0 rfl) ?_
                                                  refine lv_iload_n X.1 X.2.1 dL_law_901 rfl (lv_at hl 3 rfl) ?_
                                                  refine lv_iconst (v := 1) X.1 X.2.1 dL_law_902 (by decide) ?_
                                                  refine lv_iadd X.1 X.2.1 dL_law_903 ?_
                                                  refine va_sld X.1 X.2.1 hX hbl hbA hS hg173 dL_law_904 ?_
                                                  refine lv_aload_n X.1 X.2.1 dL_law_905 rfl (lv_at hl 0 rfl) ?_
                                                  refine lv_iload_n X.1 X.2.1 dL_law_906 rfl (lv_at hl 3 rfl) ?_
                                                  refine lv_iconst (v := 2) X.1 X.2.1 dL_law_907 (by decide) ?_
                                                  refine lv_iadd X.1 X.2.1 dL_law_908 ?_
                                                  refine va_sld X.1 X.2.1 hX hbl hbA hS hg174 dL_law_909 ?_
                                                  obtain ⟨r177, M178, err177, hres⟩ := m_o2_e hres
                                                  refine m_bi (m_cV (n := 2) (As := [.int (xs (x3 + (1 : Int32)).toNatClampNeg), .int (xs (x3 + (2 : Int32)).toNatClampNeg)]) (rest := [.int r175]) X hSt hP hS hl.1 (c_X8_rests l G  err177) k_c_yX8_rests k_m_L_109 k_i_yX8_rests k_s_yX8_rests k_n_X8 (by decide +kernel) (m_rc8 hSt hP m_z_172) rfl rfl ⟨Nat.le_of_ble_eq_true rfl, Nat.le_of_ble_eq_true rfl⟩ (Nat.le_of_ble_eq_true rfl) ⟨Nat.le_of_ble_eq_true rfl, Nat.le_of_ble_eq_true rfl⟩ dL_law_910) hS (fun H locs hP hS => ?_)
                                                  refine lv_icmp_eq (tgt := 1220) X.1 X.2.1 dL_law_913 (by decide) (fun hc179 => ?_) (fun hc179 => ?_)
                                                  · have hres := m_it hres hc179
                                                    refine lv_iinc (v := (x3 + 6)) (lv' := [(3, .int (x3 + 6)), (0, .ref b), (1, .ref (m_ad G 0)), (2, .ref (m_ad G 172))]) X.1 X.2.1 dL_law_1220 hl (k := 3) rfl rfl (by decide) rfl (fun ls hl => ?_)
                                                    refine lv_goto (tgt := 18) X.1 X.2.1 dL_law_1223 (by decide) ?_
                                                    exact ih (x3 + 6) M178 _ _ _ hP hS (lv_sub hl [1, 2, 3, 0] rfl) hres
                                                  · have hres := m_if hres hc179
                                                    refine lv_iconst (v := 0) X.1 X.2.1 dL_law_916 (by decide) ?_
                                                    cases hres
                                                · have hres := m_if hres hc172
                                                  by_cases hc180 : ((xs x3.toNatClampNeg) &&& (31 : Int32)) = 22
                                                  · have hres := m_it hres hc180
                                                    refine m_tin (tgt := 918) X dL_law_33 ⟨_, hc180, by decide, by decide, rfl⟩ (by decide) ?_
                                                    refine lv_aload_n X.1 X.2.1 dL_law_918 rfl (lv_at hl 1 rfl) ?_
                                                    refine lv_aload_n X.1 X.2.1 dL_law_919 rfl (lv_at hl 0 rfl) ?_
                                                    refine lv_iload_n X.1 X.2.1 dL_law_920 rfl (lv_at hl 3 rfl) ?_
                                                    refine lv_iconst (v := 1) X.1 X.2.1 dL_law_921 (by decide) ?_
                                                    refine lv_iadd X.1 X.2.1 dL_law_922 ?_
                                                    obtain ⟨hg181, hres⟩ := m_gd_e hres
                                                    refine va_sld X.1 X.2.1 hX hbl hbA hS hg181 dL_law_923 ?_
                                                    refine lv_aload_n X.1 X.2.1 dL_law_924 rfl (lv_at hl 0 rfl) ?_
                                                    refine lv_iload_n X.1 X.2.1 dL_law_925 rfl (lv_at hl 3 rfl) ?_
                                                    refine lv_iconst (v := 2) X.1 X.2.1 dL_law_926 (by decide) ?_
                                                    refine lv_iadd X.1 X.2.1 dL_law_927 ?_
                                                    obtain ⟨hg182, hres⟩ := m_gd_e hres
                                                    refine va_sld X.1 X.2.1 hX hbl hbA hS hg182 dL_law_928 ?_
                                                    refine lv_aload_n X.1 X.2.1 dL_law_929 rfl (lv_at hl 0 rfl) ?_
                                                    refine lv_iload_n X.1 X.2.1 dL_law_930 rfl (lv_at hl 3 rfl) ?_
                                                    refine lv_iconst (v := 3) X.1 X.2.1 dL_law_931 (by decide) ?_
                                                    refine lv_iadd X.1 X.2.1 dL_law_932 ?_
                                                    obtain ⟨hg183, hres⟩ := m_gd_e hres
                                                    refine va_sld X.1 X.2.1 hX hbl hbA hS hg183 dL_law_933 ?_
                                                    obtain ⟨r184, M185, err184, hres⟩ := m_o2_e hres
                                                    refine m_bi (m_cV (n := 3) (As := [.int (xs (x3 + (1 : Int32)).toNatClampNeg), .int (xs (x3 + (2 : Int32)).toNatClampNeg), .int (xs (x3 + (3 : Int32)).toNatClampNeg)]) (rest := []) X hSt hP hS hl.1 (c_X7_wise l G  err184) k_c_yX7_wise k_m_L_110 k_i_yX7_wise k_s_yX7_wise k_n_X7 (by decide +kernel) (m_rc7 hSt hP m_z_0) rfl rfl ⟨Nat.le_of_ble_eq_true rfl, Nat.le_of_ble_eq_true rfl⟩ (Nat.le_of_ble_eq_true rfl) ⟨Nat.le_of_ble_eq_true rfl, Nat.le_of_ble_eq_true rfl⟩ dL_law_934) hS (fun H locs hP hS => ?_)
                                                    refine lv_aload_n X.1 X.2.1 dL_law_937 rfl (lv_at hl 2 rfl) ?_
                                                    refine lv_aload_n X.1 X.2.1 dL_law_938 rfl (lv_at hl 0 rfl) ?_
                                                    refine lv_iload_n X.1 X.2.1 dL_law_939 rfl (lv_at hl 3 rfl) ?_
                                                    refine lv_iconst (v := 1) X.1 X.2.1 dL_law_940 (by decide) ?_
                                                    refine lv_iadd X.1 X.2.1 dL_law_941 ?_
                                                    refine va_sld X.1 X.2.1 hX hbl hbA hS hg181 dL_law_942 ?_
                                                    refine lv_aload_n X.1 X.2.1 dL_law_943 rfl (lv_at hl 0 rfl) ?_
                                                    refine lv_iload_n X.1 X.2.1 dL_law_944 rfl (lv_at hl 3 rfl) ?_
                                                    refine lv_iconst (v := 2) X.1 X.2.1 dL_law_945 (by decide) ?_
                                                    refine lv_iadd X.1 X.2.1 dL_law_946 ?_
                                                    refine va_sld X.1 X.2.1 hX hbl hbA hS hg182 dL_law_947 ?_
                                                    refine lv_aload_n X.1 X.2.1 dL_law_948 rfl (lv_at hl 0 rfl) ?_
                                                    refine lv_iload_n X.1 X.2.1 dL_law_949 rfl (lv_at hl 3 rfl) ?_
                                                    refine lv_iconst (v := 3) X.1 X.2.1 dL_law_950 (by decide) ?_
                                                    refine lv_iadd X.1 X.2.1 dL_law_951 ?_
                                                    refine va_sld X.1 X.2.1 hX hbl hbA hS hg183 dL_law_952 ?_
                                                    obtain ⟨r186, M187, err186, hres⟩ := m_o2_e hres
                                                    refine m_bi (m_cV (n := 3) (As := [.int (xs (x3 + (1 : Int32)).toNatClampNeg), .int (xs (x3 + (2 : Int32)).toNatClampNeg), .int (xs (x3 + (3 : Int32)).toNatClampNeg)]) (rest := [.int r184]) X hSt hP hS hl.1 (c_X8_wise l G  err186) k_c_yX8_wise k_m_L_113 k_i_yX8_wise k_s_yX8_wise k_n_X8 (by decide +kernel) (m_rc8 hSt hP m_z_172) rfl rfl ⟨Nat.le_of_ble_eq_true rfl, Nat.le_of_ble_eq_true rfl⟩ (Nat.le_of_ble_eq_true rfl) ⟨Nat.le_of_ble_eq_true rfl, Nat.le_of_ble_eq_true rfl⟩ dL_law_953) hS (fun H locs hP hS => ?_)
                                                    refine lv_icmp_eq (tgt := 1220) X.1 X.2.1 dL_law_956 (by decide) (fun hc188 => ?_) (fun hc188 => ?_)
                                                    · have hres := m_it hres hc188
                                                      refine lv_iinc (v := (x3 + 6)) (lv' := [(3, .int (x3 + 6)), (0, .ref b), (1, .ref (m_ad G 0)), (2, .ref (m_ad G 172))]) X.1 X.2.1 dL_law_1220 hl (k := 3) rfl rfl (by decide) rfl (fun ls hl => ?_)
                                                      refine lv_goto (tgt := 18) X.1 X.2.1 dL_law_1223 (by decide) ?_
                                                      exact ih (x3 + 6) M187 _ _ _ hP hS (lv_sub hl [1, 2, 3, 0] rfl) hres
                                                    · have hres := m_if hres hc188
                                                      refine lv_iconst (v := 0) X.1 X.2.1 dL_law_959 (by decide) ?_
                                                      cases hres
                                                  · have hres := m_if hres hc180
                                                    by_cases hc189 : ((xs x3.toNatClampNeg) &&& (31 : Int32)) = 23
                                                    · have hres := m_it hres hc189
                                                      refine m_tin (tgt := 961) X dL_law_33 ⟨_, hc189, by decide, by decide, rfl⟩ (by decide) ?_
                                                      refine lv_aload_n X.1 X.2.1 dL_law_961 rfl (lv_at hl 1 rfl) ?_
                                                      refine lv_aload_n X.1 X.2.1 dL_law_962 rfl (lv_at hl 0 rfl) ?_
                                                      refine lv_iload_n X.1 X.2.1 dL_law_963 rfl (lv_at hl 3 rfl) ?_
                                                      refine lv_iconst (v := 1) X.1 X.2.1 dL_law_964 (by decide) ?_
                                                      refine lv_iadd X.1 X.2.1 dL_law_965 ?_
                                                      obtain ⟨hg190, hres⟩ := m_gd_e hres
                                                      refine va_sld X.1 X.2.1 hX hbl hbA hS hg190 dL_law_966 ?_
                                                      refine lv_aload_n X.1 X.2.1 dL_law_967 rfl (lv_at hl 0 rfl) ?_
                                                      refine lv_iload_n X.1 X.2.1 dL_law_968 rfl (lv_at hl 3 rfl) ?_
                                                      refine lv_iconst (v := 2) X.1 X.2.1 dL_law_969 (by decide) ?_
                                                      refine lv_iadd X.1 X.2.1 dL_law_970 ?_
                                                      obtain ⟨hg191, hres⟩ := m_gd_e hres
                                                      refine va_sld X.1 X.2.1 hX hbl hbA hS hg191 dL_law_971 ?_
                                                      refine lv_aload_n X.1 X.2.1 dL_law_972 rfl (lv_at hl 0 rfl) ?_
                                                      refine lv_iload_n X.1 X.2.1 dL_law_973 rfl (lv_at hl 3 rfl) ?_
                                                      refine lv_iconst (v := 3) X.1 X.2.1 dL_law_974 (by decide) ?_
                                                      refine lv_iadd X.1 X.2.1 dL_law_975 ?_
                                                      obtain ⟨hg192, hres⟩ := m_gd_e hres
                                                      refine va_sld X.1 X.2.1 hX hbl hbA hS hg192 dL_law_976 ?_
                                                      refine lv_aload_n X.1 X.2.1 dL_law_977 rfl (lv_at hl 0 rfl) ?_
                                                      refine lv_iload_n X.1 X.2.1 dL_law_978 rfl (lv_at hl 3 rfl) ?_
                                                      refine lv_iconst (v := 4) X.1 X.2.1 dL_law_979 (by decide) ?_
                                                      refine lv_iadd X.1 X.2.1 dL_law_980 ?_
                                                      obtain ⟨hg193, hres⟩ := m_gd_e hres
                                                      refine va_sld X.1 X.2.1 hX hbl hbA hS hg193 dL_law_981 ?_
                                                      obtain ⟨r194, M195, err194, hres⟩ := m_o2_e hres
                                                      refine m_bi (m_cV (n := 4) (As := [.int (xs (x3 + (1 : Int32)).toNatClampNeg), .int (xs (x3 + (2 : Int32)).toNatClampNeg), .int (xs (x3 + (3 : Int32)).toNatClampNeg), .int (xs (x3 + (4 : Int32)).toNatClampNeg)]) (rest := []) X hSt hP hS hl.1 (c_X7_sure l G  err194) k_c_yX7_sure k_m_L_114 k_i_yX7_sure k_s_yX7_sure k_n_X7 (by decide +kernel) (m_rc7 hSt hP m_z_0) rfl rfl ⟨Nat.le_of_ble_eq_true rfl, Nat.le_of_ble_eq_true rfl⟩ (Nat.le_of_ble_eq_true rfl) ⟨Nat.le_of_ble_eq_true rfl, Nat.le_of_ble_eq_true rfl⟩ dL_law_982) hS (fun H locs hP hS => ?_)
                                                      refine lv_aload_n X.1 X.2.1 dL_law_985 rfl (lv_at hl 2 rfl) ?_
                                                      refine lv_aload_n X.1 X.2.1 dL_law_986 rfl (lv_at hl 0 rfl) ?_
                                                      refine lv_iload_n X.1 X.2.1 dL_law_987 rfl (lv_at hl 3 rfl) ?_
                                                      refine lv_iconst (v := 1) X.1 X.2.1 dL_law_988 (by decide) ?_
                                                      refine lv_iadd X.1 X.2.1 dL_law_989 ?_
                                                      refine va_sld X.1 X.2.1 hX hbl hbA hS hg190 dL_law_990 ?_
                                                      refine lv_aload_n X.1 X.2.1 dL_law_991 rfl (lv_at hl 0 rfl) ?_
                                                      refine lv_iload_n X.1 X.2.1 dL_law_992 rfl (lv_at hl 3 rfl) ?_
                                                      refine lv_iconst (v := 2) X.1 X.2.1 dL_law_993 (by decide) ?_
                                                      refine lv_iadd X.1 X.2.1 dL_law_994 ?_
                                                      refine va_sld X.1 X.2.1 hX hbl hbA hS hg191 dL_law_995 ?_
                                                      refine lv_aload_n X.1 X.2.1 dL_law_996 rfl (lv_at hl 0 rfl) ?_
                                                      refine lv_iload_n X.1 X.2.1 dL_law_997 rfl (lv_at hl 3 rfl) ?_
                                                      refine lv_iconst (v := 3) X.1 X.2.1 dL_law_998 (by decide) ?_
                                                      refine lv_iadd X.1 X.2.1 dL_law_999 ?_
                                                      refine va_sld X.1 X.2.1 hX hbl hbA hS hg192 dL_law_1000 ?_
                                                      refine lv_aload_n X.1 X.2.1 dL_law_1001 rfl (lv_at hl 0 rfl) ?_
                                                      refine lv_iload_n X.1 X.2.1 dL_law_1002 rfl (lv_at hl 3 rfl) ?_
                                                      refine lv_iconst (v := 4) X.1 X.2.1 dL_law_1003 (by decide) ?_
                                                      refine lv_iadd X.1 X.2.1 dL_law_1004 ?_
                                                      refine va_sld X.1 X.2.1 hX hbl hbA hS hg193 dL_law_1005 ?_
                                                      obtain ⟨r196, M197, err196, hres⟩ := m_o2_e hres
                                                      refine m_bi (m_cV (n := 4) (As := [.int (xs (x3 + (1 : Int32)).toNatClampNeg), .int (xs (x3 + (2 : Int32)).toNatClampNeg), .int (xs (x3 + (3 : Int32)).toNatClampNeg), .int (xs (x3 + (4 : Int32)).toNatClampNeg)]) (rest := [.int r194]) X hSt hP hS hl.1 (c_X8_sure l G  err196) k_c_yX8_sure k_m_L_118 k_i_yX8_sure k_s_yX8_sure k_n_X8 (by decide +kernel) (m_rc8 hSt hP m_z_172) rfl rfl ⟨Nat.le_of_ble_eq_true rfl, Nat.le_of_ble_eq_true rfl⟩ (Nat.le_of_ble_eq_true rfl) ⟨Nat.le_of_ble_eq_true rfl, Nat.le_of_ble_eq_true rfl⟩ dL_law_1006) hS (fun H locs hP hS => ?_)
                                                      refine lv_icmp_eq (tgt := 1220) X.1 X.2.1 dL_law_1009 (by decide) (fun hc198 => ?_) (fun hc198 => ?_)
                                                      · have hres := m_it hres hc198
                                                        refine lv_iinc (v := (x3 + 6)) (lv' := [(3, .int (x3 + 6)), (0, .ref b), (1, .ref (m_ad G 0)), (2, .ref (m_ad G 172))]) X.1 X.2.1 dL_law_1220 hl (k := 3) rfl rfl (by decide) rfl (fun ls hl => ?_)
                                                        refine lv_goto (tgt := 18) X.1 X.2.1 dL_law_1223 (by decide) ?_
                                                        exact ih (x3 + 6) M197 _ _ _ hP hS (lv_sub hl [1, 2, 3, 0] rfl) hres
                                                      · have hres := m_if hres hc198
                                                        refine lv_iconst (v := 0) X.1 X.2.1 dL_law_1012 (by decide) ?_
                                                        cases hres
                                                    · have hres := m_if hres hc189
                                                      by_cases hc199 : ((xs x3.toNatClampNeg) &&& (31 : Int32)) = 24
                                                      · have hres := m_it hres hc199
                                                        refine m_tin (tgt := 1014) X dL_law_33 ⟨_, hc199, by decide, by decide, rfl⟩ (by decide) ?_
                                                        refine lv_aload_n X.1 X.2.1 dL_law_1014 rfl (lv_at hl 1 rfl) ?_
                                                        refine lv_aload_n X.1 X.2.1 dL_law_1015 rfl (lv_at hl 0 rfl) ?_
                                                        refine lv_iload_n X.1 X.2.1 dL_law_1016 rfl (lv_at hl 3 rfl) ?_
                                                        refine lv_iconst (v := 1) X.1 X.2.1 dL_law_1017 (by decide) ?_
                                                        refine lv_iadd X.1 X.2.1 dL_law_1018 ?_
                                                        obtain ⟨hg200, hres⟩ := m_gd_e hres
                                                        refine va_sld X.1 X.2.1 hX hbl hbA hS hg200 dL_law_1019 ?_
                                                        refine lv_aload_n X.1 X.2.1 dL_law_1020 rfl (lv_at hl 0 rfl) ?_
                                                        refine lv_iload_n X.1 X.2.1 dL_law_1021 rfl (lv_at hl 3 rfl) ?_
                                                        refine lv_iconst (v := 2) X.1 X.2.1 dL_law_1022 (by decide) ?_
                                                        refine lv_iadd X.1 X.2.1 dL_law_1023 ?_
                                                        obtain ⟨hg201, hres⟩ := m_gd_e hres
                                                        refine va_sld X.1 X.2.1 hX hbl hbA hS hg201 dL_law_1024 ?_
                                                        refine lv_aload_n X.1 X.2.1 dL_law_1025 rfl (lv_at hl 0 rfl) ?_
                                                        refine lv_iload_n X.1 X.2.1 dL_law_1026 rfl (lv_at hl 3 rfl) ?_
                                                        refine lv_iconst (v := 3) X.1 X.2.1 dL_law_1027 (by decide) ?_
                                                        refine lv_iadd X.1 X.2.1 dL_law_1028 ?_
                                                        obtain ⟨hg202, hres⟩ := m_gd_e hres
                                                        refine va_sld X.1 X.2.1 hX hbl hbA hS hg202 dL_law_1029 ?_
                                                        obtain ⟨r203, M204, err203, hres⟩ := m_o2_e hres
                                                        refine m_bi (m_cV (n := 3) (As := [.int (xs (x3 + (1 : Int32)).toNatClampNeg), .int (xs (x3 + (2 : Int32)).toNatClampNeg), .int (xs (x3 + (3 : Int32)).toNatClampNeg)]) (rest := []) X hSt hP hS hl.1 (c_X7_hangs l G  err203) k_c_yX7_hangs k_m_L_119 k_i_yX7_hangs k_s_yX7_hangs k_n_X7 (by decide +kernel) (m_rc7 hSt hP m_z_0) rfl rfl ⟨Nat.le_of_ble_eq_true rfl, Nat.le_of_ble_eq_true rfl⟩ (Nat.le_of_ble_eq_true rfl) ⟨Nat.le_of_ble_eq_true rfl, Nat.le_of_ble_eq_true rfl⟩ dL_law_1030) hS (fun H locs hP hS => ?_)
                                                        refine lv_aload_n X.1 X.2.1 dL_law_1033 rfl (lv_at hl 2 rfl) ?_
                                                        refine lv_aload_n X.1 X.2.1 dL_law_1034 rfl (lv_at hl 0 rfl) ?_
                                                        refine lv_iload_n X.1 X.2.1 dL_law_1035 rfl (lv_at hl 3 rfl) ?_
                                                        refine lv_iconst (v := 1) X.1 X.2.1 dL_law_1036 (by decide) ?_
                                                        refine lv_iadd X.1 X.2.1 dL_law_1037 ?_
                                                        refine va_sld X.1 X.2.1 hX hbl hbA hS hg200 dL_law_1038 ?_
                                                        refine lv_aload_n X.1 X.2.1 dL_law_1039 rfl (lv_at hl 0 rfl) ?_
                                                        refine lv_iload_n X.1 X.2.1 dL_law_1040 rfl (lv_at hl 3 rfl) ?_
                                                        refine lv_iconst (v := 2) X.1 X.2.1 dL_law_1041 (by decide) ?_
                                                        refine lv_iadd X.1 X.2.1 dL_law_1042 ?_
                                                        refine va_sld X.1 X.2.1 hX hbl hbA hS hg201 dL_law_1043 ?_
                                                        refine lv_aload_n X.1 X.2.1 dL_law_1044 rfl (lv_at hl 0 rfl) ?_
                                                        refine lv_iload_n X.1 X.2.1 dL_law_1045 rfl (lv_at hl 3 rfl) ?_
                                                        refine lv_iconst (v := 3) X.1 X.2.1 dL_law_1046 (by decide) ?_
                                                        refine lv_iadd X.1 X.2.1 dL_law_1047 ?_
                                                        refine va_sld X.1 X.2.1 hX hbl hbA hS hg202 dL_law_1048 ?_
                                                        obtain ⟨r205, M206, err205, hres⟩ := m_o2_e hres
                                                        refine m_bi (m_cV (n := 3) (As := [.int (xs (x3 + (1 : Int32)).toNatClampNeg), .int (xs (x3 + (2 : Int32)).toNatClampNeg), .int (xs (x3 + (3 : Int32)).toNatClampNeg)]) (rest := [.int r203]) X hSt hP hS hl.1 (c_X8_hangs l G  err205) k_c_yX8_hangs k_m_L_122 k_i_yX8_hangs k_s_yX8_hangs k_n_X8 (by decide +kernel) (m_rc8 hSt hP m_z_172) rfl rfl ⟨Nat.le_of_ble_eq_true rfl, Nat.le_of_ble_eq_true rfl⟩ (Nat.le_of_ble_eq_true rfl) ⟨Nat.le_of_ble_eq_true rfl, Nat.le_of_ble_eq_true rfl⟩ dL_law_1049) hS (fun H locs hP hS => ?_)
                                                        refine lv_icmp_eq (tgt := 1220) X.1 X.2.1 dL_law_1052 (by decide) (fun hc207 => ?_) (fun hc207 => ?_)
                                                        · have hres := m_it hres hc207
                                                          refine lv_iinc (v := (x3 + 6)) (lv' := [(3, .int (x3 + 6)), (0, .ref b), (1, .ref (m_ad G 0)), (2, .ref (m_ad G 172))]) X.1 X.2.1 dL_law_1220 hl (k := 3) rfl rfl (by decide) rfl (fun ls hl => ?_)
                                                          refine lv_goto (tgt := 18) X.1 X.2.1 dL_law_1223 (by decide) ?_
                                                          exact ih (x3 + 6) M206 _ _ _ hP hS (lv_sub hl [1, 2, 3, 0] rfl) hres
                                                        · have hres := m_if hres hc207
                                                          refine lv_iconst (v := 0) X.1 X.2.1 dL_law_1055 (by decide) ?_
                                                          cases hres
                                                      · have hres := m_if hres hc199
                                                        by_cases hc208 : ((xs x3.toNatClampNeg) &&& (31 : Int32)) = 25
                                                        · have hres := m_it hres hc208
                                                          refine m_tin (tgt := 1057) X dL_law_33 ⟨_, hc208, by decide, by decide, rfl⟩ (by decide) ?_
                                                          refine lv_aload_n X.1 X.2.1 dL_law_1057 rfl (lv_at hl 1 rfl) ?_
                                                          refine lv_aload_n X.1 X.2.1 dL_law_1058 rfl (lv_at hl 0 rfl) ?_
                                                          refine lv_iload_n X.1 X.2.1 dL_law_1059 rfl (lv_at hl 3 rfl) ?_
                                                          refine lv_iconst (v := 1) X.1 X.2.1 dL_law_1060 (by decide) ?_
                                                          refine lv_iadd X.1 X.2.1 dL_law_1061 ?_
                                                          obtain ⟨hg209, hres⟩ := m_gd_e hres
                                                          refine va_sld X.1 X.2.1 hX hbl hbA hS hg209 dL_law_1062 ?_
                                                          obtain ⟨r210, M211, err210, hres⟩ := m_o2_e hres
                                                          refine m_bi (m_cV (n := 1) (As := [.int (xs (x3 + (1 : Int32)).toNatClampNeg)]) (rest := []) X hSt hP hS hl.1 (c_X7_parted l G  err210) k_c_yX7_parted k_m_L_123 k_i_yX7_parted k_s_yX7_parted k_n_X7 (by decide +kernel) (m_rc7 hSt hP m_z_0) rfl rfl ⟨Nat.le_of_ble_eq_true rfl, Nat.le_of_ble_eq_true rfl⟩ (Nat.le_of_ble_eq_true rfl) ⟨Nat.le_of_ble_eq_true rfl, Nat.le_of_ble_eq_true rfl⟩ dL_law_1063) hS (fun H locs hP hS => ?_)
                                                          refine lv_aload_n X.1 X.2.1 dL_law_1066 rfl (lv_at hl 2 rfl) ?_
                                                          refine lv_aload_n X.1 X.2.1 dL_law_1067 rfl (lv_at hl 0 rfl) ?_
                                                          refine lv_iload_n X.1 X.2.1 dL_law_1068 rfl (lv_at hl 3 rfl) ?_
                                                          refine lv_iconst (v := 1) X.1 X.2.1 dL_law_1069 (by decide) ?_
                                                          refine lv_iadd X.1 X.2.1 dL_law_1070 ?_
                                                          refine va_sld X.1 X.2.1 hX hbl hbA hS hg209 dL_law_1071 ?_
                                                          obtain ⟨r212, M213, err212, hres⟩ := m_o2_e hres
                                                          refine m_bi (m_cV (n := 1) (As := [.int (xs (x3 + (1 : Int32)).toNatClampNeg)]) (rest := [.int r210]) X hSt hP hS hl.1 (c_X8_parted l G  err212) k_c_yX8_parted k_m_L_126 k_i_yX8_parted k_s_yX8_parted k_n_X8 (by decide +kernel) (m_rc8 hSt hP m_z_172) rfl rfl ⟨Nat.le_of_ble_eq_true rfl, Nat.le_of_ble_eq_true rfl⟩ (Nat.le_of_ble_eq_true rfl) ⟨Nat.le_of_ble_eq_true rfl, Nat.le_of_ble_eq_true rfl⟩ dL_law_1072) hS (fun H locs hP hS => ?_)
                                                          refine lv_icmp_eq (tgt := 1220) X.1 X.2.1 dL_law_1075 (by decide) (fun hc214 => ?_) (fun hc214 => ?_)
                                                          · have hres := m_it hres hc214
                                                            refine lv_iinc (v := (x3 + 6)) (lv' := [(3, .int (x3 + 6)), (0, .ref b), (1, .ref (m_ad G 0)), (2, .ref (m_ad G 172))]) X.1 X.2.1 dL_law_1220 hl (k := 3) rfl rfl (by decide) rfl (fun ls hl => ?_)
                                                            refine lv_goto (tgt := 18) X.1 X.2.1 dL_law_1223 (by decide) ?_
                                                            exact ih (x3 + 6) M213 _ _ _ hP hS (lv_sub hl [1, 2, 3, 0] rfl) hres
                                                          · have hres := m_if hres hc214
                                                            refine lv_iconst (v := 0) X.1 X.2.1 dL_law_1078 (by decide) ?_
                                                            cases hres
                                                        · have hres := m_if hres hc208
                                                          by_cases hc215 : ((xs x3.toNatClampNeg) &&& (31 : Int32)) = 26
                                                          · have hres := m_it hres hc215
                                                            refine m_tin (tgt := 1080) X dL_law_33 ⟨_, hc215, by decide, by decide, rfl⟩ (by decide) ?_
                                                            refine lv_aload_n X.1 X.2.1 dL_law_1080 rfl (lv_at hl 1 rfl) ?_
                                                            refine lv_aload_n X.1 X.2.1 dL_law_1081 rfl (lv_at hl 0 rfl) ?_
                                                            refine lv_iload_n X.1 X.2.1 dL_law_1082 rfl (lv_at hl 3 rfl) ?_
                                                            refine lv_iconst (v := 1) X.1 X.2.1 dL_law_1083 (by decide) ?_
                                                            refine lv_iadd X.1 X.2.1 dL_law_1084 ?_
                                                            obtain ⟨hg216, hres⟩ := m_gd_e hres
                                                            refine va_sld X.1 X.2.1 hX hbl hbA hS hg216 dL_law_1085 ?_
                                                            obtain ⟨r217, err217, hres⟩ := m_bd_e hres
                                                            refine m_bl (m_cV (n := 1) (As := [.int (xs (x3 + (1 : Int32)).toNatClampNeg)]) (rest := []) X hSt hP hS hl.1 (c_X7_part l G  err217) k_c_yX7_part k_m_L_127 k_i_yX7_part k_s_yX7_part k_n_X7 (by decide +kernel) (m_rc7 hSt hP m_z_0) rfl rfl ⟨Nat.le_of_ble_eq_true rfl, Nat.le_of_ble_eq_true rfl⟩ (Nat.le_of_ble_eq_true rfl) ⟨Nat.le_of_ble_eq_true rfl, Nat.le_of_ble_eq_true rfl⟩ dL_law_1086) hS (fun H locs hP hS => ?_)
                                                            refine lv_aload_n X.1 X.2.1 dL_law_1089 rfl (lv_at hl 2 rfl) ?_
                                                            refine lv_aload_n X.1 X.2.1 dL_law_1090 rfl (lv_at hl 0 rfl) ?_
                                                            refine lv_iload_n X.1 X.2.1 dL_law_1091 rfl (lv_at hl 3 rfl) ?_
                                                            refine lv_iconst (v := 1) X.1 X.2.1 dL_law_1092 (by decide) ?_
                                                            refine lv_iadd X.1 X.2.1 dL_law_1093 ?_
                                                            refine va_sld X.1 X.2.1 hX hbl hbA hS hg216 dL_law_1094 ?_
                                                            obtain ⟨r218, err218, hres⟩ := m_bd_e hres
                                                            refine m_bl (m_cV (n := 1) (As := [.int (xs (x3 + (1 : Int32)).toNatClampNeg)]) (rest := [.long r217]) X hSt hP hS hl.1 (c_X8_part l G  err218) k_c_yX8_part k_m_L_131 k_i_yX8_part k_s_yX8_part k_n_X8 (by decide +kernel) (m_rc8 hSt hP m_z_172) rfl rfl ⟨Nat.le_of_ble_eq_true rfl, Nat.le_of_ble_eq_true rfl⟩ (Nat.le_of_ble_eq_true rfl) ⟨Nat.le_of_ble_eq_true rfl, Nat.le_of_ble_eq_true rfl⟩ dL_law_1095) hS (fun H locs hP hS => ?_)
                                                            refine m_leq (tgt := 1220) X dL_law_1098 dL_law_1099 (by decide) (fun hc219 => ?_) (fun hc219 => ?_)
                                                            · have hres := m_it hres hc219
                                                              refine lv_iinc (v := (x3 + 6)) (lv' := [(3, .int (x3 + 6)), (0, .ref b), (1, .ref (m_ad G 0)), (2, .ref (m_ad G 172))]) X.1 X.2.1 dL_law_1220 hl (k := 3) rfl rfl (by decide) rfl (fun ls hl => ?_)
                                                              refine lv_goto (tgt := 18) X.1 X.2.1 dL_law_1223 (by decide) ?_
                                                              exact ih (x3 + 6) M _ _ _ hP hS (lv_sub hl [1, 2, 3, 0] rfl) hres
                                                            · have hres := m_if hres hc219
                                                              refine lv_iconst (v := 0) X.1 X.2.1 dL_law_1102 (by decide) ?_
                                                              cases hres
                                                          · have hres := m_if hres hc215
                                                            by_cases hc220 : ((xs x3.toNatClampNeg) &&& (31 : Int32)) = 27
                                                            · have hres := m_it hres hc220
                                                              refine m_tin (tgt := 1104) X dL_law_33 ⟨_, hc220, by decide, by decide, rfl⟩ (by decide) ?_
                                                              refine lv_aload_n X.1 X.2.1 dL_law_1104 rfl (lv_at hl 1 rfl) ?_
                                                              refine lv_aload_n X.1 X.2.1 dL_law_1105 rfl (lv_at hl 0 rfl) ?_
                                                              refine lv_iload_n X.1 X.2.1 dL_law_1106 rfl (lv_at hl 3 rfl) ?_
                                                              refine lv_iconst (v := 1) X.1 X.2.1 dL_law_1107 (by decide) ?_
                                                              refine lv_iadd X.1 X.2.1 dL_law_1108 ?_
                                                              obtain ⟨hg221, hres⟩ := m_gd_e hres
                                                              refine va_sld X.1 X.2.1 hX hbl hbA hS hg221 dL_law_1109 ?_
                                                              refine lv_aload_n X.1 X.2.1 dL_law_1110 rfl (lv_at hl 0 rfl) ?_
                                                              refine lv_iload_n X.1 X.2.1 dL_law_1111 rfl (lv_at hl 3 rfl) ?_
                                                              refine lv_iconst (v := 2) X.1 X.2.1 dL_law_1112 (by decide) ?_
                                                              refine lv_iadd X.1 X.2.1 dL_law_1113 ?_
                                                              obtain ⟨hg222, hres⟩ := m_gd_e hres
                                                              refine va_sld X.1 X.2.1 hX hbl hbA hS hg222 dL_law_1114 ?_
                                                              obtain ⟨r223, err223, hres⟩ := m_ob_e hres
                                                              refine m_bi (m_cV (n := 2) (As := [.int (xs (x3 + (1 : Int32)).toNatClampNeg), .int (xs (x3 + (2 : Int32)).toNatClampNeg)]) (rest := []) X hSt hP hS hl.1 (c_X7_told l G  err223) k_c_yX7_told k_m_L_132 k_i_yX7_told k_s_yX7_told k_n_X7 (by decide +kernel) (m_rc7 hSt hP m_z_0) rfl rfl ⟨Nat.le_of_ble_eq_true rfl, Nat.le_of_ble_eq_true rfl⟩ (Nat.le_of_ble_eq_true rfl) ⟨Nat.le_of_ble_eq_true rfl, Nat.le_of_ble_eq_true rfl⟩ dL_law_1115) hS (fun H locs hP hS => ?_)
                                                              refine lv_aload_n X.1 X.2.1 dL_law_1118 rfl (lv_at hl 2 rfl) ?_
                                                              refine lv_aload_n X.1 X.2.1 dL_law_1119 rfl (lv_at hl 0 rfl) ?_
                                                              refine lv_iload_n X.1 X.2.1 dL_law_1120 rfl (lv_at hl 3 rfl) ?_
                                                              refine lv_iconst (v := 1) X.1 X.2.1 dL_law_1121 (by decide) ?_
                                                              refine lv_iadd X.1 X.2.1 dL_law_1122 ?_
                                                              refine va_sld X.1 X.2.1 hX hbl hbA hS hg221 dL_law_1123 ?_
                                                              refine lv_aload_n X.1 X.2.1 dL_law_1124 rfl (lv_at hl 0 rfl) ?_
                                                              refine lv_iload_n X.1 X.2.1 dL_law_1125 rfl (lv_at hl 3 rfl) ?_
                                                              refine lv_iconst (v := 2) X.1 X.2.1 dL_law_1126 (by decide) ?_
                                                              refine lv_iadd X.1 X.2.1 dL_law_1127 ?_
                                                              refine va_sld X.1 X.2.1 hX hbl hbA hS hg222 dL_law_1128 ?_
                                                              obtain ⟨r224, err224, hres⟩ := m_ob_e hres
                                                              refine m_bi (m_cV (n := 2) (As := [.int (xs (x3 + (1 : Int32)).toNatClampNeg), .int (xs (x3 + (2 : Int32)).toNatClampNeg)]) (rest := [.int r223]) X hSt hP hS hl.1 (c_X8_told l G  err224) k_c_yX8_told k_m_L_135 k_i_yX8_told k_s_yX8_told k_n_X8 (by decide +kernel) (m_rc8 hSt hP m_z_172) rfl rfl ⟨Nat.le_of_ble_eq_true rfl, Nat.le_of_ble_eq_true rfl⟩ (Nat.le_of_ble_eq_true rfl) ⟨Nat.le_of_ble_eq_true rfl, Nat.le_of_ble_eq_true rfl⟩ dL_law_1129) hS (fun H locs hP hS => ?_)
                                                              refine lv_icmp_eq (tgt := 1220) X.1 X.2.1 dL_law_1132 (by decide) (fun hc225 => ?_) (fun hc225 => ?_)
                                                              · have hres := m_it hres hc225
                                                                refine lv_iinc (v := (x3 + 6)) (lv' := [(3, .int (x3 + 6)), (0, .ref b), (1, .ref (m_ad G 0)), (2, .ref (m_ad G 172))]) X.1 X.2.1 dL_law_1220 hl (k := 3) rfl rfl (by decide) rfl (fun ls hl => ?_)
                                                                refine lv_goto (tgt := 18) X.1 X.2.1 dL_law_1223 (by decide) ?_
                                                                exact ih (x3 + 6) M _ _ _ hP hS (lv_sub hl [1, 2, 3, 0] rfl) hres
                                                              · have hres := m_if hres hc225
                                                                refine lv_iconst (v := 0) X.1 X.2.1 dL_law_1135 (by decide) ?_
                                                                cases hres
                                                            · have hres := m_if hres hc220
                                                              by_cases hc226 : ((xs x3.toNatClampNeg) &&& (31 : Int32)) = 28
                                                              · have hres := m_it hres hc226
                                                                refine m_tin (tgt := 1137) X dL_law_33 ⟨_, hc226, by decide, by decide, rfl⟩ (by decide) ?_
                                                                refine lv_aload_n X.1 X.2.1 dL_law_1137 rfl (lv_at hl 1 rfl) ?_
                                                                refine lv_aload_n X.1 X.2.1 dL_law_1138 rfl (lv_at hl 0 rfl) ?_
                                                                refine lv_iload_n X.1 X.2.1 dL_law_1139 rfl (lv_at hl 3 rfl) ?_
                                                                refine lv_iconst (v := 1) X.1 X.2.1 dL_law_1140 (by decide) ?_
                                                                refine lv_iadd X.1 X.2.1 dL_law_1141 ?_
                                                                obtain ⟨hg227, hres⟩ := m_gd_e hres
                                                                refine va_sld X.1 X.2.1 hX hbl hbA hS hg227 dL_law_1142 ?_
                                                                obtain ⟨r228, M229, err228, hres⟩ := m_o2_e hres
                                                                refine m_bi (m_cV (n := 1) (As := [.int (xs (x3 + (1 : Int32)).toNatClampNeg)]) (rest := []) X hSt hP hS hl.1 (c_X7_image l G  err228) k_c_yX7_image k_m_L_136 k_i_yX7_image k_s_yX7_image k_n_X7 (by decide +kernel) (m_rc7 hSt hP m_z_0) rfl rfl ⟨Nat.le_of_ble_eq_true rfl, Nat.le_of_ble_eq_true rfl⟩ (Nat.le_of_ble_eq_true rfl) ⟨Nat.le_of_ble_eq_true rfl, Nat.le_of_ble_eq_true rfl⟩ dL_law_1143) hS (fun H locs hP hS => ?_)
                                                                refine lv_aload_n X.1 X.2.1 dL_law_1146 rfl (lv_at hl 2 rfl) ?_
                                                                refine lv_aload_n X.1 X.2.1 dL_law_1147 rfl (lv_at hl 0 rfl) ?_
                                                                refine lv_iload_n X.1 X.2.1 dL_law_1148 rfl (lv_at hl 3 rfl) ?_
                                                                refine lv_iconst (v := 1) X.1 X.2.1 dL_law_1149 (by decide) ?_
                                                                refine lv_iadd X.1 X.2.1 dL_law_1150 ?_
                                                                refine va_sld X.1 X.2.1 hX hbl hbA hS hg227 dL_law_1151 ?_
                                                                obtain ⟨r230, M231, err230, hres⟩ := m_o2_e hres
                                                                refine m_bi (m_cV (n := 1) (As := [.int (xs (x3 + (1 : Int32)).toNatClampNeg)]) (rest := [.int r228]) X hSt hP hS hl.1 (c_X8_image l G  err230) k_c_yX8_image k_m_L_139 k_i_yX8_image k_s_yX8_image k_n_X8 (by decide +kernel) (m_rc8 hSt hP m_z_172) rfl rfl ⟨Nat.le_of_ble_eq_true rfl, Nat.le_of_ble_eq_true rfl⟩ (Nat.le_of_ble_eq_true rfl) ⟨Nat.le_of_ble_eq_true rfl, Nat.le_of_ble_eq_true rfl⟩ dL_law_1152) hS (fun H locs hP hS => ?_)
                                                                refine lv_icmp_eq (tgt := 1220) X.1 X.2.1 dL_law_1155 (by decide) (fun hc232 => ?_) (fun hc232 => ?_)
                                                                · have hres := m_it hres hc232
                                                                  refine lv_iinc (v := (x3 + 6)) (lv' := [(3, .int (x3 + 6)), (0, .ref b), (1, .ref (m_ad G 0)), (2, .ref (m_ad G 172))]) X.1 X.2.1 dL_law_1220 hl (k := 3) rfl rfl (by decide) rfl (fun ls hl => ?_)
                                                                  refine lv_goto (tgt := 18) X.1 X.2.1 dL_law_1223 (by decide) ?_
                                                                  exact ih (x3 + 6) M231 _ _ _ hP hS (lv_sub hl [1, 2, 3, 0] rfl) hres
                                                                · have hres := m_if hres hc232
                                                                  refine lv_iconst (v := 0) X.1 X.2.1 dL_law_1158 (by decide) ?_
                                                                  cases hres
                                                              · have hres := m_if hres hc226
                                                                by_cases hc233 : ((xs x3.toNatClampNeg) &&& (31 : Int32)) = 29
                                                                · have hres := m_it hres hc233
                                                                  refine m_tin (tgt := 1160) X dL_law_33 ⟨_, hc233, by decide, by decide, rfl⟩ (by decide) ?_
                                                                  refine lv_aload_n X.1 X.2.1 dL_law_1160 rfl (lv_at hl 1 rfl) ?_
                                                                  refine lv_aload_n X.1 X.2.1 dL_law_1161 rfl (lv_at hl 0 rfl) ?_
                                                                  refine lv_iload_n X.1 X.2.1 dL_law_1162 rfl (lv_at hl 3 rfl) ?_
                                                                  refine lv_iconst (v := 1) X.1 X.2.1 dL_law_1163 (by decide) ?_
                                                                  refine lv_iadd X.1 X.2.1 dL_law_1164 ?_
                                                                  obtain ⟨hg234, hres⟩ := m_gd_e hres
                                                                  refine va_sld X.1 X.2.1 hX hbl hbA hS hg234 dL_law_1165 ?_
                                                                  obtain ⟨r235, M236, err235, hres⟩ := m_o2_e hres
                                                                  refine m_bi (m_cV (n := 1) (As := [.int (xs (x3 + (1 : Int32)).toNatClampNeg)]) (rest := []) X hSt hP hS hl.1 (c_X7_from l G  err235) k_c_yX7_from k_m_L_140 k_i_yX7_from k_s_yX7_from k_n_X7 (by decide +kernel) (m_rc7 hSt hP m_z_0) rfl rfl ⟨Nat.le_of_ble_eq_true rfl, Nat.le_of_ble_eq_true rfl⟩ (Nat.le_of_ble_eq_true rfl) ⟨Nat.le_of_ble_eq_true rfl, Nat.le_of_ble_eq_true rfl⟩ dL_law_1166) hS (fun H locs hP hS => ?_)
                                                                  refine lv_aload_n X.1 X.2.1 dL_law_1169 rfl (lv_at hl 2 rfl) ?_
                                                                  refine lv_aload_n X.1 X.2.1 dL_law_1170 rfl (lv_at hl 0 rfl) ?_
                                                                  refine lv_iload_n X.1 X.2.1 dL_law_1171 rfl (lv_at hl 3 rfl) ?_
                                                                  refine lv_iconst (v := 1) X.1 X.2.1 dL_law_1172 (by decide) ?_
                                                                  refine lv_iadd X.1 X.2.1 dL_law_1173 ?_
                                                                  refine va_sld X.1 X.2.1 hX hbl hbA hS hg234 dL_law_1174 ?_
                                                                  obtain ⟨r237, M238, err237, hres⟩ := m_o2_e hres
                                                                  refine m_bi (m_cV (n := 1) (As := [.int (xs (x3 + (1 : Int32)).toNatClampNeg)]) (rest := [.int r235]) X hSt hP hS hl.1 (c_X8_from l G  err237) k_c_yX8_from k_m_L_143 k_i_yX8_from k_s_yX8_from k_n_X8 (by decide +kernel) (m_rc8 hSt hP m_z_172) rfl rfl ⟨Nat.le_of_ble_eq_true rfl, Nat.le_of_ble_eq_true rfl⟩ (Nat.le_of_ble_eq_true rfl) ⟨Nat.le_of_ble_eq_true rfl, Nat.le_of_ble_eq_true rfl⟩ dL_law_1175) hS (fun H locs hP hS => ?_)
                                                                  refine lv_icmp_eq (tgt := 1220) X.1 X.2.1 dL_law_1178 (by decide) (fun hc239 => ?_) (fun hc239 => ?_)
                                                                  · have hres := m_it hres hc239
                                                                    refine lv_iinc (v := (x3 + 6)) (lv' := [(3, .int (x3 + 6)), (0, .ref b), (1, .ref (m_ad G 0)), (2, .ref (m_ad G 172))]) X.1 X.2.1 dL_law_1220 hl (k := 3) rfl rfl (by decide) rfl (fun ls hl => ?_)
                                                                    refine lv_goto (tgt := 18) X.1 X.2.1 dL_law_1223 (by decide) ?_
                                                                    exact ih (x3 + 6) M238 _ _ _ hP hS (lv_sub hl [1, 2, 3, 0] rfl) hres
                                                                  · have hres := m_if hres hc239
                                                                    refine lv_iconst (v := 0) X.1 X.2.1 dL_law_1181 (by decide) ?_
                                                                    cases hres
                                                                · have hres := m_if hres hc233
                                                                  by_cases hc240 : ((xs x3.toNatClampNeg) &&& (31 : Int32)) = 30
                                                                  · have hres := m_it hres hc240
                                                                    refine m_tin (tgt := 1183) X dL_law_33 ⟨_, hc240, by decide, by decide, rfl⟩ (by decide) ?_
                                                                    refine lv_aload_n X.1 X.2.1 dL_law_1183 rfl (lv_at hl 1 rfl) ?_
                                                                    refine lv_aload_n X.1 X.2.1 dL_law_1184 rfl (lv_at hl 0 rfl) ?_
                                                                    refine lv_iload_n X.1 X.2.1 dL_law_1185 rfl (lv_at hl 3 rfl) ?_
                                                                    refine lv_iconst (v := 1) X.1 X.2.1 dL_law_1186 (by decide) ?_
                                                                    refine lv_iadd X.1 X.2.1 dL_law_1187 ?_
                                                                    obtain ⟨hg241, hres⟩ := m_gd_e hres
                                                                    refine va_sld X.1 X.2.1 hX hbl hbA hS hg241 dL_law_1188 ?_
                                                                    obtain ⟨r242, err242, hres⟩ := m_bd_e hres
                                                                    refine m_bi (m_cV (n := 1) (As := [.int (xs (x3 + (1 : Int32)).toNatClampNeg)]) (rest := []) X hSt hP hS hl.1 (c_X7_count l G  err242) k_c_yX7_count k_m_L_144 k_i_yX7_count k_s_yX7_count k_n_X7 (by decide +kernel) (m_rc7 hSt hP m_z_0) rfl rfl ⟨Nat.le_of_ble_eq_true rfl, Nat.le_of_ble_eq_true rfl⟩ (Nat.le_of_ble_eq_true rfl) ⟨Nat.le_of_ble_eq_true rfl, Nat.le_of_ble_eq_true rfl⟩ dL_law_1189) hS (fun H locs hP hS => ?_)
                                                                    refine lv_aload_n X.1 X.2.1 dL_law_1192 rfl (lv_at hl 2 rfl) ?_
                                                                    refine lv_aload_n X.1 X.2.1 dL_law_1193 rfl (lv_at hl 0 rfl) ?_
                                                                    refine lv_iload_n X.1 X.2.1 dL_law_1194 rfl (lv_at hl 3 rfl) ?_
                                                                    refine lv_iconst (v := 1) X.1 X.2.1 dL_law_1195 (by decide) ?_
                                                                    refine lv_iadd X.1 X.2.1 dL_law_1196 ?_
                                                                    refine va_sld X.1 X.2.1 hX hbl hbA hS hg241 dL_law_1197 ?_
                                                                    obtain ⟨r243, M244, err243, hres⟩ := m_o2_e hres
                                                                    refine m_bi (m_cV (n := 1) (As := [.int (xs (x3 + (1 : Int32)).toNatClampNeg)]) (rest := [.int r242]) X hSt hP hS hl.1 (c_X8_count l G  err243) k_c_yX8_count k_m_L_147 k_i_yX8_count k_s_yX8_count k_n_X8 (by decide +kernel) (m_rc8 hSt hP m_z_172) rfl rfl ⟨Nat.le_of_ble_eq_true rfl, Nat.le_of_ble_eq_true rfl⟩ (Nat.le_of_ble_eq_true rfl) ⟨Nat.le_of_ble_eq_true rfl, Nat.le_of_ble_eq_true rfl⟩ dL_law_1198) hS (fun H locs hP hS => ?_)
                                                                    refine lv_icmp_eq (tgt := 1220) X.1 X.2.1 dL_law_1201 (by decide) (fun hc245 => ?_) (fun hc245 => ?_)
                                                                    · have hres := m_it hres hc245
                                                                      refine lv_iinc (v := (x3 + 6)) (lv' := [(3, .int (x3 + 6)), (0, .ref b), (1, .ref (m_ad G 0)), (2, .ref (m_ad G 172))]) X.1 X.2.1 dL_law_1220 hl (k := 3) rfl rfl (by decide) rfl (fun ls hl => ?_)
                                                                      refine lv_goto (tgt := 18) X.1 X.2.1 dL_law_1223 (by decide) ?_
                                                                      exact ih (x3 + 6) M244 _ _ _ hP hS (lv_sub hl [1, 2, 3, 0] rfl) hres
                                                                    · have hres := m_if hres hc245
                                                                      refine lv_iconst (v := 0) X.1 X.2.1 dL_law_1204 (by decide) ?_
                                                                      cases hres
                                                                  · have hres := m_if hres hc240
                                                                    by_cases hc246 : ((xs x3.toNatClampNeg) &&& (31 : Int32)) = 31
                                                                    · have hres := m_it hres hc246
                                                                      refine m_tin (tgt := 1206) X dL_law_33 ⟨_, hc246, by decide, by decide, rfl⟩ (by decide) ?_
                                                                      refine lv_aload_n X.1 X.2.1 dL_law_1206 rfl (lv_at hl 1 rfl) ?_
                                                                      obtain ⟨r247, M248, err247, hres⟩ := m_o2_e hres
                                                                      refine m_bl (m_cV (n := 0) (As := []) (rest := []) X hSt hP hS hl.1 (c_X7_digest l G  err247) k_c_yX7_digest k_m_L_148 k_i_yX7_digest k_s_yX7_digest k_n_X7 (by decide +kernel) (m_rc7 hSt hP m_z_0) rfl rfl ⟨Nat.le_of_ble_eq_true rfl, Nat.le_of_ble_eq_true rfl⟩ (Nat.le_of_ble_eq_true rfl) ⟨Nat.le_of_ble_eq_true rfl, Nat.le_of_ble_eq_true rfl⟩ dL_law_1207) hS (fun H locs hP hS => ?_)
                                                                      refine lv_aload_n X.1 X.2.1 dL_law_1210 rfl (lv_at hl 2 rfl) ?_
                                                                      obtain ⟨r249, M250, err249, hres⟩ := m_o2_e hres
                                                                      refine m_bl (m_cV (n := 0) (As := []) (rest := [.long r247]) X hSt hP hS hl.1 (c_X8_digest l G  err249) k_c_yX8_digest k_m_L_152 k_i_yX8_digest k_s_yX8_digest k_n_X8 (by decide +kernel) (m_rc8 hSt hP m_z_172) rfl rfl ⟨Nat.le_of_ble_eq_true rfl, Nat.le_of_ble_eq_true rfl⟩ (Nat.le_of_ble_eq_true rfl) ⟨Nat.le_of_ble_eq_true rfl, Nat.le_of_ble_eq_true rfl⟩ dL_law_1211) hS (fun H locs hP hS => ?_)
                                                                      refine m_leq (tgt := 1220) X dL_law_1214 dL_law_1215 (by decide) (fun hc251 => ?_) (fun hc251 => ?_)
                                                                      · have hres := m_it hres hc251
                                                                        refine lv_iinc (v := (x3 + 6)) (lv' := [(3, .int (x3 + 6)), (0, .ref b), (1, .ref (m_ad G 0)), (2, .ref (m_ad G 172))]) X.1 X.2.1 dL_law_1220 hl (k := 3) rfl rfl (by decide) rfl (fun ls hl => ?_)
                                                                        refine lv_goto (tgt := 18) X.1 X.2.1 dL_law_1223 (by decide) ?_
                                                                        exact ih (x3 + 6) M250 _ _ _ hP hS (lv_sub hl [1, 2, 3, 0] rfl) hres
                                                                      · have hres := m_if hres hc251
                                                                        refine lv_iconst (v := 0) X.1 X.2.1 dL_law_1218 (by decide) ?_
                                                                        cases hres
                                                                    · have hres := m_if hres hc246
                                                                      refine m_tdf (x := ((xs x3.toNatClampNeg) &&& (31 : Int32))) (tgt := 1220) X dL_law_33 (Or.inl (by have := m_ne (z := 0) hc11 (by decide); have := m_ne (z := 1) hc17 (by decide); have := m_ne (z := 2) hc28 (by decide); have := m_ne (z := 3) hc32 (by decide); have := m_ne (z := 4) hc41 (by decide); have := m_ne (z := 5) hc47 (by decide); have := m_ne (z := 6) hc53 (by decide); have := m_ne (z := 7) hc61 (by decide); have := m_ne (z := 8) hc68 (by decide); have := m_ne (z := 9) hc74 (by decide); have := m_ne (z := 10) hc82 (by decide); have := m_ne (z := 11) hc91 (by decide); have := m_ne (z := 12) hc100 (by decide); have := m_ne (z := 13) hc109 (by decide); have := m_ne (z := 14) hc117 (by decide); have := m_ne (z := 15) hc125 (by decide); have := m_ne (z := 16) hc134 (by decide); have := m_ne (z := 17) hc142 (by decide); have := m_ne (z := 18) hc149 (by decide); have := m_ne (z := 19) hc155 (by decide); have := m_ne (z := 20) hc163 (by decide); have := m_ne (z := 21) hc172 (by decide); have := m_ne (z := 22) hc180 (by decide); have := m_ne (z := 23) hc189 (by decide); have := m_ne (z := 24) hc199 (by decide); have := m_ne (z := 25) hc208 (by decide); have := m_ne (z := 26) hc215 (by decide); have := m_ne (z := 27) hc220 (by decide); have := m_ne (z := 28) hc226 (by decide); have := m_ne (z := 29) hc233 (by decide); have := m_ne (z := 30) hc240 (by decide); have := m_ne (z := 31) hc246 (by decide); omega)) (by decide) ?_
                                                                      refine lv_iinc (v := (x3 + 6)) (lv' := [(3, .int (x3 + 6)), (0, .ref b), (1, .ref (m_ad G 0)), (2, .ref (m_ad G 172))]) X.1 X.2.1 dL_law_1220 hl (k := 3) rfl rfl (by decide) rfl (fun ls hl => ?_)
                                                                      refine lv_goto (tgt := 18) X.1 X.2.1 dL_law_1223 (by decide) ?_
                                                                      exact ih (x3 + 6) M _ _ _ hP hS (lv_sub hl [1, 2, 3, 0] rfl) hres
