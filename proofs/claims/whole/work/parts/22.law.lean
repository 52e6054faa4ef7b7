def R_law : String := "CandleTurnsLaw"
def lw_P (b : Addr) (xs : List Int32) (args : Array Value) (s : State) : Prop := args = #[.ref b] ∧ s.IntsAt b xs ∧ xs.length ≤ 384 ∧ (Jvm.Cond.and given_1 narrow_1).before args s = true
def lw_Q (_ : Array Value) (s : State) (o : Outcome) (t : State) : Prop := o = .returned (some (.int 1)) ∧ Framed s o t [] 600000 7302250
def lw_Z (below : List Frame) (a : Array Value) (s : State) : State → Prop := fun t => ∃ o, t.status = .running ∧ Ended t below o ∧ lw_Q a s o t
/-- the law's own end, with 1 on the stack, nothing written that was there before, its room as the claim has it -/
theorem lw_ret {p : Program} {l : Launch} {e : Env} {s : State} {m : MethodId} {below : List Frame} {meth : Method} {c : Code} {b : Nat} (hx : p.tables.exec = Jvm.exec) (hb : c.code = code) (hr : meth.sig.returnType = ret) (hlocks : meth.locks = false) {pc : Nat} {H : Heap} {ls : Array Slot} (hdg : decode code pc = .ok (.ireturn, 1)) : W p l e room_1 s m #[Value.ref b] below meth c H [] 600000 7302250 (lw_Z below #[Value.ref b] s) (F0 m pc ls [.int 1]) := by
  intro T hT X
  obtain ⟨fs, hret, hrun, hended, hW, hframe⟩ := X.leave (v := some (.int 1)) (hlocks := hlocks) (fun h => by rw [hr] at h; cases h)
  have hmeth' : T.vm.method? m = some meth := X.method'
  refine ⟨T.setFrames fs, ?_, .returned (some (.int 1)), hrun, hended, rfl, ⟨_, rfl⟩, hW, hframe⟩
  jvm_step X.here [X.here.top, hx, hb, hdg, hmeth', hr, ret, narrow_b1]
  (try refine ⟨rfl, ?_⟩); (try refine ⟨rfl, ?_⟩)
  first | (intro acts; rw [hret _ acts rfl rfl rfl]) | rw [hret _ _ rfl rfl rfl]
  exact Steps.refl _
/-- what holds at the law's entry: the machine, the code, the tables' words (any of lw_tbl by 'hts w (by decide +kernel)'), the script of L ints xs at the cell b, what the Statement gives of the start (any of its parts by flat_of_before) -/
def lw_At (p : Program) (s : State) (m : MethodId) (meth : Method) (c : Code) (b L : Nat) (xs : Nat → Int32) : Prop :=
  p.tables.exec = Jvm.exec ∧ c.code = code ∧ meth.sig.returnType = ret ∧ c.maxLocals = 4 ∧ s.vm.findClass R_law = some m.cls ∧ (∀ w ∈ lw_tbl, w.before #[Value.ref b] s = true) ∧ va_X b L xs s s.heap ∧ b < s.heap.size ∧ meth.locks = false ∧ (Jvm.Cond.and given_1 narrow_1).before #[Value.ref b] s = true

theorem dL_law_0 : decode code 0 = .ok (.new 7, 3) := by decide +kernel
theorem dL_law_3 : decode code 3 = .ok (.dup, 1) := by decide +kernel
theorem dL_law_4 : decode code 4 = .ok (.invokespecial 9, 3) := by decide +kernel
theorem dL_law_7 : decode code 7 = .ok (.astore_n 1, 1) := by decide +kernel
theorem dL_law_8 : decode code 8 = .ok (.new 10, 3) := by decide +kernel
theorem dL_law_11 : decode code 11 = .ok (.dup, 1) := by decide +kernel
theorem dL_law_12 : decode code 12 = .ok (.invokespecial 12, 3) := by decide +kernel
theorem dL_law_15 : decode code 15 = .ok (.astore_n 2, 1) := by decide +kernel
theorem dL_law_16 : decode code 16 = .ok (.iconst 0, 1) := by decide +kernel
theorem dL_law_17 : decode code 17 = .ok (.istore_n 3, 1) := by decide +kernel
theorem dL_law_18 : decode code 18 = .ok (.iload_n 3, 1) := by decide +kernel
theorem dL_law_19 : decode code 19 = .ok (.aload_n 0, 1) := by decide +kernel
theorem dL_law_20 : decode code 20 = .ok (.arraylength, 1) := by decide +kernel
theorem dL_law_21 : decode code 21 = .ok (.bipush 6, 2) := by decide +kernel
theorem dL_law_23 : decode code 23 = .ok (.isub, 1) := by decide +kernel
theorem dL_law_24 : decode code 24 = .ok (.if_icmp .gt 1343, 3) := by decide +kernel
theorem dL_law_27 : decode code 27 = .ok (.aload_n 0, 1) := by decide +kernel
theorem dL_law_28 : decode code 28 = .ok (.iload_n 3, 1) := by decide +kernel
theorem dL_law_29 : decode code 29 = .ok (.iaload, 1) := by decide +kernel
theorem dL_law_30 : decode code 30 = .ok (.bipush 63, 2) := by decide +kernel
theorem dL_law_32 : decode code 32 = .ok (.iand, 1) := by decide +kernel
theorem dL_law_33 : decode code 33 = .ok (.tableswitch 1328 0 38 #[171, 214, 247, 280, 313, 356, 389, 432, 465, 498, 521, 544, 567, 580, 603, 626, 639, 672, 695, 728, 761, 804, 827, 840, 873, 896, 939, 982, 1005, 1028, 1091, 1134, 1167, 1200, 1233, 1256, 1279, 1292, 1305], 171) := by decide +kernel
theorem dL_law_204 : decode code 204 = .ok (.aload_n 1, 1) := by decide +kernel
theorem dL_law_205 : decode code 205 = .ok (.aload_n 0, 1) := by decide +kernel
theorem dL_law_206 : decode code 206 = .ok (.iload_n 3, 1) := by decide +kernel
theorem dL_law_207 : decode code 207 = .ok (.iconst 1, 1) := by decide +kernel
theorem dL_law_208 : decode code 208 = .ok (.iadd, 1) := by decide +kernel
theorem dL_law_209 : decode code 209 = .ok (.iaload, 1) := by decide +kernel
theorem dL_law_210 : decode code 210 = .ok (.aload_n 0, 1) := by decide +kernel
theorem dL_law_211 : decode code 211 = .ok (.iload_n 3, 1) := by decide +kernel
theorem dL_law_212 : decode code 212 = .ok (.iconst 2, 1) := by decide +kernel
theorem dL_law_213 : decode code 213 = .ok (.iadd, 1) := by decide +kernel
theorem dL_law_214 : decode code 214 = .ok (.iaload, 1) := by decide +kernel
theorem dL_law_215 : decode code 215 = .ok (.aload_n 0, 1) := by decide +kernel
theorem dL_law_216 : decode code 216 = .ok (.iload_n 3, 1) := by decide +kernel
theorem dL_law_217 : decode code 217 = .ok (.iconst 3, 1) := by decide +kernel
theorem dL_law_218 : decode code 218 = .ok (.iadd, 1) := by decide +kernel
theorem dL_law_219 : decode code 219 = .ok (.iaload, 1) := by decide +kernel
theorem dL_law_220 : decode code 220 = .ok (.invokevirtual 13, 3) := by decide +kernel
theorem dL_law_223 : decode code 223 = .ok (.aload_n 2, 1) := by decide +kernel
theorem dL_law_224 : decode code 224 = .ok (.aload_n 0, 1) := by decide +kernel
theorem dL_law_225 : decode code 225 = .ok (.iload_n 3, 1) := by decide +kernel
theorem dL_law_226 : decode code 226 = .ok (.iconst 1, 1) := by decide +kernel
theorem dL_law_227 : decode code 227 = .ok (.iadd, 1) := by decide +kernel
theorem dL_law_228 : decode code 228 = .ok (.iaload, 1) := by decide +kernel
theorem dL_law_229 : decode code 229 = .ok (.aload_n 0, 1) := by decide +kernel
theorem dL_law_230 : decode code 230 = .ok (.iload_n 3, 1) := by decide +kernel
theorem dL_law_231 : decode code 231 = .ok (.iconst 2, 1) := by decide +kernel
theorem dL_law_232 : decode code 232 = .ok (.iadd, 1) := by decide +kernel
theorem dL_law_233 : decode code 233 = .ok (.iaload, 1) := by decide +kernel
theorem dL_law_234 : decode code 234 = .ok (.aload_n 0, 1) := by decide +kernel
theorem dL_law_235 : decode code 235 = .ok (.iload_n 3, 1) := by decide +kernel
theorem dL_law_236 : decode code 236 = .ok (.iconst 3, 1) := by decide +kernel
theorem dL_law_237 : decode code 237 = .ok (.iadd, 1) := by decide +kernel
theorem dL_law_238 : decode code 238 = .ok (.iaload, 1) := by decide +kernel
theorem dL_law_239 : decode code 239 = .ok (.invokevirtual 17, 3) := by decide +kernel
theorem dL_law_242 : decode code 242 = .ok (.if_icmp .eq 1119, 3) := by decide +kernel
theorem dL_law_245 : decode code 245 = .ok (.iconst 0, 1) := by decide +kernel
theorem dL_law_246 : decode code 246 = .ok (.ireturn, 1) := by decide +kernel
theorem dL_law_247 : decode code 247 = .ok (.aload_n 1, 1) := by decide +kernel
theorem dL_law_248 : decode code 248 = .ok (.aload_n 0, 1) := by decide +kernel
theorem dL_law_249 : decode code 249 = .ok (.iload_n 3, 1) := by decide +kernel
theorem dL_law_250 : decode code 250 = .ok (.iconst 1, 1) := by decide +kernel
theorem dL_law_251 : decode code 251 = .ok (.iadd, 1) := by decide +kernel
theorem dL_law_252 : decode code 252 = .ok (.iaload, 1) := by decide +kernel
theorem dL_law_253 : decode code 253 = .ok (.aload_n 0, 1) := by decide +kernel
theorem dL_law_254 : decode code 254 = .ok (.iload_n 3, 1) := by decide +kernel
theorem dL_law_255 : decode code 255 = .ok (.iconst 2, 1) := by decide +kernel
theorem dL_law_256 : decode code 256 = .ok (.iadd, 1) := by decide +kernel
theorem dL_law_257 : decode code 257 = .ok (.iaload, 1) := by decide +kernel
theorem dL_law_258 : decode code 258 = .ok (.invokevirtual 18, 3) := by decide +kernel
theorem dL_law_261 : decode code 261 = .ok (.aload_n 2, 1) := by decide +kernel
theorem dL_law_262 : decode code 262 = .ok (.aload_n 0, 1) := by decide +kernel
theorem dL_law_263 : decode code 263 = .ok (.iload_n 3, 1) := by decide +kernel
theorem dL_law_264 : decode code 264 = .ok (.iconst 1, 1) := by decide +kernel
theorem dL_law_265 : decode code 265 = .ok (.iadd, 1) := by decide +kernel
theorem dL_law_266 : decode code 266 = .ok (.iaload, 1) := by decide +kernel
theorem dL_law_267 : decode code 267 = .ok (.aload_n 0, 1) := by decide +kernel
theorem dL_law_268 : decode code 268 = .ok (.iload_n 3, 1) := by decide +kernel
theorem dL_law_269 : decode code 269 = .ok (.iconst 2, 1) := by decide +kernel
theorem dL_law_270 : decode code 270 = .ok (.iadd, 1) := by decide +kernel
theorem dL_law_271 : decode code 271 = .ok (.iaload, 1) := by decide +kernel
theorem dL_law_272 : decode code 272 = .ok (.invokevirtual 22, 3) := by decide +kernel
theorem dL_law_275 : decode code 275 = .ok (.if_icmp .eq 1086, 3) := by decide +kernel
theorem dL_law_278 : decode code 278 = .ok (.iconst 0, 1) := by decide +kernel
theorem dL_law_279 : decode code 279 = .ok (.ireturn, 1) := by decide +kernel
theorem dL_law_280 : decode code 280 = .ok (.aload_n 1, 1) := by decide +kernel
theorem dL_law_281 : decode code 281 = .ok (.aload_n 0, 1) := by decide +kernel
theorem dL_law_282 : decode code 282 = .ok (.iload_n 3, 1) := by decide +kernel
theorem dL_law_283 : decode code 283 = .ok (.iconst 1, 1) := by decide +kernel
theorem dL_law_284 : decode code 284 = .ok (.iadd, 1) := by decide +kernel
theorem dL_law_285 : decode code 285 = .ok (.iaload, 1) := by decide +kernel
theorem dL_law_286 : decode code 286 = .ok (.aload_n 0, 1) := by decide +kernel
theorem dL_law_287 : decode code 287 = .ok (.iload_n 3, 1) := by decide +kernel
theorem dL_law_288 : decode code 288 = .ok (.iconst 2, 1) := by decide +kernel
theorem dL_law_289 : decode code 289 = .ok (.iadd, 1) := by decide +kernel
theorem dL_law_290 : decode code 290 = .ok (.iaload, 1) := by decide +kernel
theorem dL_law_291 : decode code 291 = .ok (.invokevirtual 23, 3) := by decide +kernel
theorem dL_law_294 : decode code 294 = .ok (.aload_n 2, 1) := by decide +kernel
theorem dL_law_295 : decode code 295 = .ok (.aload_n 0, 1) := by decide +kernel
theorem dL_law_296 : decode code 296 = .ok (.iload_n 3, 1) := by decide +kernel
theorem dL_law_297 : decode code 297 = .ok (.iconst 1, 1) := by decide +kernel
theorem dL_law_298 : decode code 298 = .ok (.iadd, 1) := by decide +kernel
theorem dL_law_299 : decode code 299 = .ok (.iaload, 1) := by decide +kernel
theorem dL_law_300 : decode code 300 = .ok (.aload_n 0, 1) := by decide +kernel
theorem dL_law_301 : decode code 301 = .ok (.iload_n 3, 1) := by decide +kernel
theorem dL_law_302 : decode code 302 = .ok (.iconst 2, 1) := by decide +kernel
theorem dL_law_303 : decode code 303 = .ok (.iadd, 1) := by decide +kernel
theorem dL_law_304 : decode code 304 = .ok (.iaload, 1) := by decide +kernel
theorem dL_law_305 : decode code 305 = .ok (.invokevirtual 26, 3) := by decide +kernel
theorem dL_law_308 : decode code 308 = .ok (.if_icmp .eq 1053, 3) := by decide +kernel
theorem dL_law_311 : decode code 311 = .ok (.iconst 0, 1) := by decide +kernel
theorem dL_law_312 : decode code 312 = .ok (.ireturn, 1) := by decide +kernel
theorem dL_law_313 : decode code 313 = .ok (.aload_n 1, 1) := by decide +kernel
theorem dL_law_314 : decode code 314 = .ok (.aload_n 0, 1) := by decide +kernel
theorem dL_law_315 : decode code 315 = .ok (.iload_n 3, 1) := by decide +kernel
theorem dL_law_316 : decode code 316 = .ok (.iconst 1, 1) := by decide +kernel
theorem dL_law_317 : decode code 317 = .ok (.iadd, 1) := by decide +kernel
theorem dL_law_318 : decode code 318 = .ok (.iaload, 1) := by decide +kernel
theorem dL_law_319 : decode code 319 = .ok (.aload_n 0, 1) := by decide +kernel
theorem dL_law_320 : decode code 320 = .ok (.iload_n 3, 1) := by decide +kernel
theorem dL_law_321 : decode code 321 = .ok (.iconst 2, 1) := by decide +kernel
theorem dL_law_322 : decode code 322 = .ok (.iadd, 1) := by decide +kernel
theorem dL_law_323 : decode code 323 = .ok (.iaload, 1) := by decide +kernel
theorem dL_law_324 : decode code 324 = .ok (.invokevirtual 27, 3) := by decide +kernel
theorem dL_law_327 : decode code 327 = .ok (.aload_n 2, 1) := by decide +kernel
theorem dL_law_328 : decode code 328 = .ok (.aload_n 0, 1) := by decide +kernel
theorem dL_law_329 : decode code 329 = .ok (.iload_n 3, 1) := by decide +kernel
theorem dL_law_330 : decode code 330 = .ok (.iconst 1, 1) := by decide +kernel
theorem dL_law_331 : decode code 331 = .ok (.iadd, 1) := by decide +kernel
theorem dL_law_332 : decode code 332 = .ok (.iaload, 1) := by decide +kernel
theorem dL_law_333 : decode code 333 = .ok (.aload_n 0, 1) := by decide +kernel
theorem dL_law_334 : decode code 334 = .ok (.iload_n 3, 1) := by decide +kernel
theorem dL_law_335 : decode code 335 = .ok (.iconst 2, 1) := by decide +kernel
theorem dL_law_336 : decode code 336 = .ok (.iadd, 1) := by decide +kernel
theorem dL_law_337 : decode code 337 = .ok (.iaload, 1) := by decide +kernel
theorem dL_law_338 : decode code 338 = .ok (.invokevirtual 30, 3) := by decide +kernel
theorem dL_law_341 : decode code 341 = .ok (.if_icmp .eq 1020, 3) := by decide +kernel
theorem dL_law_344 : decode code 344 = .ok (.iconst 0, 1) := by decide +kernel
theorem dL_law_345 : decode code 345 = .ok (.ireturn, 1) := by decide +kernel
theorem dL_law_346 : decode code 346 = .ok (.aload_n 1, 1) := by decide +kernel
theorem dL_law_347 : decode code 347 = .ok (.aload_n 0, 1) := by decide +kernel
theorem dL_law_348 : decode code 348 = .ok (.iload_n 3, 1) := by decide +kernel
theorem dL_law_349 : decode code 349 = .ok (.iconst 1, 1) := by decide +kernel
theorem dL_law_350 : decode code 350 = .ok (.iadd, 1) := by decide +kernel
theorem dL_law_351 : decode code 351 = .ok (.iaload, 1) := by decide +kernel
theorem dL_law_352 : decode code 352 = .ok (.aload_n 0, 1) := by decide +kernel
theorem dL_law_353 : decode code 353 = .ok (.iload_n 3, 1) := by decide +kernel
theorem dL_law_354 : decode code 354 = .ok (.iconst 2, 1) := by decide +kernel
theorem dL_law_355 : decode code 355 = .ok (.iadd, 1) := by decide +kernel
theorem dL_law_356 : decode code 356 = .ok (.iaload, 1) := by decide +kernel
theorem dL_law_357 : decode code 357 = .ok (.aload_n 0, 1) := by decide +kernel
theorem dL_law_358 : decode code 358 = .ok (.iload_n 3, 1) := by decide +kernel
theorem dL_law_359 : decode code 359 = .ok (.iconst 3, 1) := by decide +kernel
theorem dL_law_360 : decode code 360 = .ok (.iadd, 1) := by decide +kernel
theorem dL_law_361 : decode code 361 = .ok (.iaload, 1) := by decide +kernel
theorem dL_law_362 : decode code 362 = .ok (.invokevirtual 31, 3) := by decide +kernel
theorem dL_law_365 : decode code 365 = .ok (.aload_n 2, 1) := by decide +kernel
theorem dL_law_366 : decode code 366 = .ok (.aload_n 0, 1) := by decide +kernel
theorem dL_law_367 : decode code 367 = .ok (.iload_n 3, 1) := by decide +kernel
theorem dL_law_368 : decode code 368 = .ok (.iconst 1, 1) := by decide +kernel
theorem dL_law_369 : decode code 369 = .ok (.iadd, 1) := by decide +kernel
theorem dL_law_370 : decode code 370 = .ok (.iaload, 1) := by decide +kernel
theorem dL_law_371 : decode code 371 = .ok (.aload_n 0, 1) := by decide +kernel
theorem dL_law_372 : decode code 372 = .ok (.iload_n 3, 1) := by decide +kernel
theorem dL_law_373 : decode code 373 = .ok (.iconst 2, 1) := by decide +kernel
theorem dL_law_374 : decode code 374 = .ok (.iadd, 1) := by decide +kernel
theorem dL_law_375 : decode code 375 = .ok (.iaload, 1) := by decide +kernel
theorem dL_law_376 : decode code 376 = .ok (.aload_n 0, 1) := by decide +kernel
theorem dL_law_377 : decode code 377 = .ok (.iload_n 3, 1) := by decide +kernel
theorem dL_law_378 : decode code 378 = .ok (.iconst 3, 1) := by decide +kernel
theorem dL_law_379 : decode code 379 = .ok (.iadd, 1) := by decide +kernel
theorem dL_law_380 : decode code 380 = .ok (.iaload, 1) := by decide +kernel
theorem dL_law_381 : decode code 381 = .ok (.invokevirtual 34, 3) := by decide +kernel
theorem dL_law_384 : decode code 384 = .ok (.if_icmp .eq 977, 3) := by decide +kernel
theorem dL_law_387 : decode code 387 = .ok (.iconst 0, 1) := by decide +kernel
theorem dL_law_388 : decode code 388 = .ok (.ireturn, 1) := by decide +kernel
theorem dL_law_389 : decode code 389 = .ok (.aload_n 1, 1) := by decide +kernel
theorem dL_law_390 : decode code 390 = .ok (.aload_n 0, 1) := by decide +kernel
theorem dL_law_391 : decode code 391 = .ok (.iload_n 3, 1) := by decide +kernel
theorem dL_law_392 : decode code 392 = .ok (.iconst 1, 1) := by decide +kernel
theorem dL_law_393 : decode code 393 = .ok (.iadd, 1) := by decide +kernel
theorem dL_law_394 : decode code 394 = .ok (.iaload, 1) := by decide +kernel
theorem dL_law_395 : decode code 395 = .ok (.aload_n 0, 1) := by decide +kernel
theorem dL_law_396 : decode code 396 = .ok (.iload_n 3, 1) := by decide +kernel
theorem dL_law_397 : decode code 397 = .ok (.iconst 2, 1) := by decide +kernel
theorem dL_law_398 : decode code 398 = .ok (.iadd, 1) := by decide +kernel
theorem dL_law_399 : decode code 399 = .ok (.iaload, 1) := by decide +kernel
theorem dL_law_400 : decode code 400 = .ok (.invokevirtual 35, 3) := by decide +kernel
theorem dL_law_403 : decode code 403 = .ok (.aload_n 2, 1) := by decide +kernel
theorem dL_law_404 : decode code 404 = .ok (.aload_n 0, 1) := by decide +kernel
theorem dL_law_405 : decode code 405 = .ok (.iload_n 3, 1) := by decide +kernel
theorem dL_law_406 : decode code 406 = .ok (.iconst 1, 1) := by decide +kernel
theorem dL_law_407 : decode code 407 = .ok (.iadd, 1) := by decide +kernel
theorem dL_law_408 : decode code 408 = .ok (.iaload, 1) := by decide +kernel
theorem dL_law_409 : decode code 409 = .ok (.aload_n 0, 1) := by decide +kernel
theorem dL_law_410 : decode code 410 = .ok (.iload_n 3, 1) := by decide +kernel
theorem dL_law_411 : decode code 411 = .ok (.iconst 2, 1) := by decide +kernel
theorem dL_law_412 : decode code 412 = .ok (.iadd, 1) := by decide +kernel
theorem dL_law_413 : decode code 413 = .ok (.iaload, 1) := by decide +kernel
theorem dL_law_414 : decode code 414 = .ok (.invokevirtual 38, 3) := by decide +kernel
theorem dL_law_417 : decode code 417 = .ok (.if_icmp .eq 944, 3) := by decide +kernel
theorem dL_law_420 : decode code 420 = .ok (.iconst 0, 1) := by decide +kernel
theorem dL_law_421 : decode code 421 = .ok (.ireturn, 1) := by decide +kernel
theorem dL_law_422 : decode code 422 = .ok (.aload_n 1, 1) := by decide +kernel
theorem dL_law_423 : decode code 423 = .ok (.aload_n 0, 1) := by decide +kernel
theorem dL_law_424 : decode code 424 = .ok (.iload_n 3, 1) := by decide +kernel
theorem dL_law_425 : decode code 425 = .ok (.iconst 1, 1) := by decide +kernel
theorem dL_law_426 : decode code 426 = .ok (.iadd, 1) := by decide +kernel
theorem dL_law_427 : decode code 427 = .ok (.iaload, 1) := by decide +kernel
theorem dL_law_428 : decode code 428 = .ok (.aload_n 0, 1) := by decide +kernel
theorem dL_law_429 : decode code 429 = .ok (.iload_n 3, 1) := by decide +kernel
theorem dL_law_430 : decode code 430 = .ok (.iconst 2, 1) := by decide +kernel
theorem dL_law_431 : decode code 431 = .ok (.iadd, 1) := by decide +kernel
theorem dL_law_432 : decode code 432 = .ok (.iaload, 1) := by decide +kernel
theorem dL_law_433 : decode code 433 = .ok (.aload_n 0, 1) := by decide +kernel
theorem dL_law_434 : decode code 434 = .ok (.iload_n 3, 1) := by decide +kernel
theorem dL_law_435 : decode code 435 = .ok (.iconst 3, 1) := by decide +kernel
theorem dL_law_436 : decode code 436 = .ok (.iadd, 1) := by decide +kernel
theorem dL_law_437 : decode code 437 = .ok (.iaload, 1) := by decide +kernel
theorem dL_law_438 : decode code 438 = .ok (.invokevirtual 39, 3) := by decide +kernel
theorem dL_law_441 : decode code 441 = .ok (.aload_n 2, 1) := by decide +kernel
theorem dL_law_442 : decode code 442 = .ok (.aload_n 0, 1) := by decide +kernel
theorem dL_law_443 : decode code 443 = .ok (.iload_n 3, 1) := by decide +kernel
theorem dL_law_444 : decode code 444 = .ok (.iconst 1, 1) := by decide +kernel
theorem dL_law_445 : decode code 445 = .ok (.iadd, 1) := by decide +kernel
theorem dL_law_446 : decode code 446 = .ok (.iaload, 1) := by decide +kernel
theorem dL_law_447 : decode code 447 = .ok (.aload_n 0, 1) := by decide +kernel
theorem dL_law_448 : decode code 448 = .ok (.iload_n 3, 1) := by decide +kernel
theorem dL_law_449 : decode code 449 = .ok (.iconst 2, 1) := by decide +kernel
theorem dL_law_450 : decode code 450 = .ok (.iadd, 1) := by decide +kernel
theorem dL_law_451 : decode code 451 = .ok (.iaload, 1) := by decide +kernel
theorem dL_law_452 : decode code 452 = .ok (.aload_n 0, 1) := by decide +kernel
theorem dL_law_453 : decode code 453 = .ok (.iload_n 3, 1) := by decide +kernel
theorem dL_law_454 : decode code 454 = .ok (.iconst 3, 1) := by decide +kernel
theorem dL_law_455 : decode code 455 = .ok (.iadd, 1) := by decide +kernel
theorem dL_law_456 : decode code 456 = .ok (.iaload, 1) := by decide +kernel
theorem dL_law_457 : decode code 457 = .ok (.invokevirtual 42, 3) := by decide +kernel
theorem dL_law_460 : decode code 460 = .ok (.if_icmp .eq 901, 3) := by decide +kernel
theorem dL_law_463 : decode code 463 = .ok (.iconst 0, 1) := by decide +kernel
theorem dL_law_464 : decode code 464 = .ok (.ireturn, 1) := by decide +kernel
theorem dL_law_465 : decode code 465 = .ok (.aload_n 1, 1) := by decide +kernel
theorem dL_law_466 : decode code 466 = .ok (.aload_n 0, 1) := by decide +kernel
theorem dL_law_467 : decode code 467 = .ok (.iload_n 3, 1) := by decide +kernel
theorem dL_law_468 : decode code 468 = .ok (.iconst 1, 1) := by decide +kernel
theorem dL_law_469 : decode code 469 = .ok (.iadd, 1) := by decide +kernel
theorem dL_law_470 : decode code 470 = .ok (.iaload, 1) := by decide +kernel
theorem dL_law_471 : decode code 471 = .ok (.aload_n 0, 1) := by decide +kernel
theorem dL_law_472 : decode code 472 = .ok (.iload_n 3, 1) := by decide +kernel
theorem dL_law_473 : decode code 473 = .ok (.iconst 2, 1) := by decide +kernel
theorem dL_law_474 : decode code 474 = .ok (.iadd, 1) := by decide +kernel
theorem dL_law_475 : decode code 475 = .ok (.iaload, 1) := by decide +kernel
theorem dL_law_476 : decode code 476 = .ok (.invokevirtual 43, 3) := by decide +kernel
theorem dL_law_479 : decode code 479 = .ok (.aload_n 2, 1) := by decide +kernel
theorem dL_law_480 : decode code 480 = .ok (.aload_n 0, 1) := by decide +kernel
theorem dL_law_481 : decode code 481 = .ok (.iload_n 3, 1) := by decide +kernel
theorem dL_law_482 : decode code 482 = .ok (.iconst 1, 1) := by decide +kernel
theorem dL_law_483 : decode code 483 = .ok (.iadd, 1) := by decide +kernel
theorem dL_law_484 : decode code 484 = .ok (.iaload, 1) := by decide +kernel
theorem dL_law_485 : decode code 485 = .ok (.aload_n 0, 1) := by decide +kernel
theorem dL_law_486 : decode code 486 = .ok (.iload_n 3, 1) := by decide +kernel
theorem dL_law_487 : decode code 487 = .ok (.iconst 2, 1) := by decide +kernel
theorem dL_law_488 : decode code 488 = .ok (.iadd, 1) := by decide +kernel
theorem dL_law_489 : decode code 489 = .ok (.iaload, 1) := by decide +kernel
theorem dL_law_490 : decode code 490 = .ok (.invokevirtual 46, 3) := by decide +kernel
theorem dL_law_493 : decode code 493 = .ok (.if_icmp .eq 868, 3) := by decide +kernel
theorem dL_law_496 : decode code 496 = .ok (.iconst 0, 1) := by decide +kernel
theorem dL_law_497 : decode code 497 = .ok (.ireturn, 1) := by decide +kernel
theorem dL_law_498 : decode code 498 = .ok (.aload_n 1, 1) := by decide +kernel
theorem dL_law_499 : decode code 499 = .ok (.aload_n 0, 1) := by decide +kernel
theorem dL_law_500 : decode code 500 = .ok (.iload_n 3, 1) := by decide +kernel
theorem dL_law_501 : decode code 501 = .ok (.iconst 1, 1) := by decide +kernel
theorem dL_law_502 : decode code 502 = .ok (.iadd, 1) := by decide +kernel
theorem dL_law_503 : decode code 503 = .ok (.iaload, 1) := by decide +kernel
theorem dL_law_504 : decode code 504 = .ok (.aload_n 0, 1) := by decide +kernel
theorem dL_law_505 : decode code 505 = .ok (.iload_n 3, 1) := by decide +kernel
theorem dL_law_506 : decode code 506 = .ok (.iconst 2, 1) := by decide +kernel
theorem dL_law_507 : decode code 507 = .ok (.iadd, 1) := by decide +kernel
theorem dL_law_508 : decode code 508 = .ok (.iaload, 1) := by decide +kernel
theorem dL_law_509 : decode code 509 = .ok (.invokevirtual 47, 3) := by decide +kernel
theorem dL_law_512 : decode code 512 = .ok (.aload_n 2, 1) := by decide +kernel
theorem dL_law_513 : decode code 513 = .ok (.aload_n 0, 1) := by decide +kernel
theorem dL_law_514 : decode code 514 = .ok (.iload_n 3, 1) := by decide +kernel
theorem dL_law_515 : decode code 515 = .ok (.iconst 1, 1) := by decide +kernel
theorem dL_law_516 : decode code 516 = .ok (.iadd, 1) := by decide +kernel
theorem dL_law_517 : decode code 517 = .ok (.iaload, 1) := by decide +kernel
theorem dL_law_518 : decode code 518 = .ok (.aload_n 0, 1) := by decide +kernel
theorem dL_law_519 : decode code 519 = .ok (.iload_n 3, 1) := by decide +kernel
theorem dL_law_520 : decode code 520 = .ok (.iconst 2, 1) := by decide +kernel
theorem dL_law_521 : decode code 521 = .ok (.iadd, 1) := by decide +kernel
theorem dL_law_522 : decode code 522 = .ok (.iaload, 1) := by decide +kernel
theorem dL_law_523 : decode code 523 = .ok (.invokevirtual 50, 3) := by decide +kernel
theorem dL_law_526 : decode code 526 = .ok (.if_icmp .eq 835, 3) := by decide +kernel
theorem dL_law_529 : decode code 529 = .ok (.iconst 0, 1) := by decide +kernel
theorem dL_law_530 : decode code 530 = .ok (.ireturn, 1) := by decide +kernel
theorem dL_law_531 : decode code 531 = .ok (.aload_n 1, 1) := by decide +kernel
theorem dL_law_532 : decode code 532 = .ok (.aload_n 0, 1) := by decide +kernel
theorem dL_law_533 : decode code 533 = .ok (.iload_n 3, 1) := by decide +kernel
theorem dL_law_534 : decode code 534 = .ok (.iconst 1, 1) := by decide +kernel
theorem dL_law_535 : decode code 535 = .ok (.iadd, 1) := by decide +kernel
theorem dL_law_536 : decode code 536 = .ok (.iaload, 1) := by decide +kernel
theorem dL_law_537 : decode code 537 = .ok (.invokevirtual 51, 3) := by decide +kernel
theorem dL_law_540 : decode code 540 = .ok (.aload_n 2, 1) := by decide +kernel
theorem dL_law_541 : decode code 541 = .ok (.aload_n 0, 1) := by decide +kernel
theorem dL_law_542 : decode code 542 = .ok (.iload_n 3, 1) := by decide +kernel
theorem dL_law_543 : decode code 543 = .ok (.iconst 1, 1) := by decide +kernel
theorem dL_law_544 : decode code 544 = .ok (.iadd, 1) := by decide +kernel
theorem dL_law_545 : decode code 545 = .ok (.iaload, 1) := by decide +kernel
theorem dL_law_546 : decode code 546 = .ok (.invokevirtual 55, 3) := by decide +kernel
theorem dL_law_549 : decode code 549 = .ok (.if_icmp .eq 812, 3) := by decide +kernel
theorem dL_law_552 : decode code 552 = .ok (.iconst 0, 1) := by decide +kernel
theorem dL_law_553 : decode code 553 = .ok (.ireturn, 1) := by decide +kernel
theorem dL_law_554 : decode code 554 = .ok (.aload_n 1, 1) := by decide +kernel
theorem dL_law_555 : decode code 555 = .ok (.aload_n 0, 1) := by decide +kernel
theorem dL_law_556 : decode code 556 = .ok (.iload_n 3, 1) := by decide +kernel
theorem dL_law_557 : decode code 557 = .ok (.iconst 1, 1) := by decide +kernel
theorem dL_law_558 : decode code 558 = .ok (.iadd, 1) := by decide +kernel
theorem dL_law_559 : decode code 559 = .ok (.iaload, 1) := by decide +kernel
theorem dL_law_560 : decode code 560 = .ok (.invokevirtual 56, 3) := by decide +kernel
theorem dL_law_563 : decode code 563 = .ok (.aload_n 2, 1) := by decide +kernel
theorem dL_law_564 : decode code 564 = .ok (.aload_n 0, 1) := by decide +kernel
theorem dL_law_565 : decode code 565 = .ok (.iload_n 3, 1) := by decide +kernel
theorem dL_law_566 : decode code 566 = .ok (.iconst 1, 1) := by decide +kernel
theorem dL_law_567 : decode code 567 = .ok (.iadd, 1) := by decide +kernel
theorem dL_law_568 : decode code 568 = .ok (.iaload, 1) := by decide +kernel
theorem dL_law_569 : decode code 569 = .ok (.invokevirtual 59, 3) := by decide +kernel
theorem dL_law_572 : decode code 572 = .ok (.if_icmp .eq 789, 3) := by decide +kernel
theorem dL_law_575 : decode code 575 = .ok (.iconst 0, 1) := by decide +kernel
theorem dL_law_576 : decode code 576 = .ok (.ireturn, 1) := by decide +kernel
theorem dL_law_577 : decode code 577 = .ok (.aload_n 1, 1) := by decide +kernel
theorem dL_law_578 : decode code 578 = .ok (.aload_n 0, 1) := by decide +kernel
theorem dL_law_579 : decode code 579 = .ok (.iload_n 3, 1) := by decide +kernel
theorem dL_law_580 : decode code 580 = .ok (.iconst 1, 1) := by decide +kernel
theorem dL_law_581 : decode code 581 = .ok (.iadd, 1) := by decide +kernel
theorem dL_law_582 : decode code 582 = .ok (.iaload, 1) := by decide +kernel
theorem dL_law_583 : decode code 583 = .ok (.invokevirtual 60, 3) := by decide +kernel
theorem dL_law_586 : decode code 586 = .ok (.aload_n 2, 1) := by decide +kernel
theorem dL_law_587 : decode code 587 = .ok (.aload_n 0, 1) := by decide +kernel
theorem dL_law_588 : decode code 588 = .ok (.iload_n 3, 1) := by decide +kernel
theorem dL_law_589 : decode code 589 = .ok (.iconst 1, 1) := by decide +kernel
theorem dL_law_590 : decode code 590 = .ok (.iadd, 1) := by decide +kernel
theorem dL_law_591 : decode code 591 = .ok (.iaload, 1) := by decide +kernel
theorem dL_law_592 : decode code 592 = .ok (.invokevirtual 63, 3) := by decide +kernel
theorem dL_law_595 : decode code 595 = .ok (.if_icmp .eq 766, 3) := by decide +kernel
theorem dL_law_598 : decode code 598 = .ok (.iconst 0, 1) := by decide +kernel
theorem dL_law_599 : decode code 599 = .ok (.ireturn, 1) := by decide +kernel
theorem dL_law_600 : decode code 600 = .ok (.aload_n 1, 1) := by decide +kernel
theorem dL_law_601 : decode code 601 = .ok (.invokevirtual 64, 3) := by decide +kernel
theorem dL_law_604 : decode code 604 = .ok (.aload_n 2, 1) := by decide +kernel
theorem dL_law_605 : decode code 605 = .ok (.invokevirtual 68, 3) := by decide +kernel
theorem dL_law_608 : decode code 608 = .ok (.if_icmp .eq 753, 3) := by decide +kernel
theorem dL_law_611 : decode code 611 = .ok (.iconst 0, 1) := by decide +kernel
theorem dL_law_612 : decode code 612 = .ok (.ireturn, 1) := by decide +kernel
theorem dL_law_613 : decode code 613 = .ok (.aload_n 1, 1) := by decide +kernel
theorem dL_law_614 : decode code 614 = .ok (.aload_n 0, 1) := by decide +kernel
theorem dL_law_615 : decode code 615 = .ok (.iload_n 3, 1) := by decide +kernel
theorem dL_law_616 : decode code 616 = .ok (.iconst 1, 1) := by decide +kernel
theorem dL_law_617 : decode code 617 = .ok (.iadd, 1) := by decide +kernel
theorem dL_law_618 : decode code 618 = .ok (.iaload, 1) := by decide +kernel
theorem dL_law_619 : decode code 619 = .ok (.invokevirtual 69, 3) := by decide +kernel
theorem dL_law_622 : decode code 622 = .ok (.aload_n 2, 1) := by decide +kernel
theorem dL_law_623 : decode code 623 = .ok (.aload_n 0, 1) := by decide +kernel
theorem dL_law_624 : decode code 624 = .ok (.iload_n 3, 1) := by decide +kernel
theorem dL_law_625 : decode code 625 = .ok (.iconst 1, 1) := by decide +kernel
theorem dL_law_626 : decode code 626 = .ok (.iadd, 1) := by decide +kernel
theorem dL_law_627 : decode code 627 = .ok (.iaload, 1) := by decide +kernel
theorem dL_law_628 : decode code 628 = .ok (.invokevirtual 72, 3) := by decide +kernel
theorem dL_law_631 : decode code 631 = .ok (.if_icmp .eq 730, 3) := by decide +kernel
theorem dL_law_634 : decode code 634 = .ok (.iconst 0, 1) := by decide +kernel
theorem dL_law_635 : decode code 635 = .ok (.ireturn, 1) := by decide +kernel
theorem dL_law_636 : decode code 636 = .ok (.aload_n 1, 1) := by decide +kernel
theorem dL_law_637 : decode code 637 = .ok (.aload_n 0, 1) := by decide +kernel
theorem dL_law_638 : decode code 638 = .ok (.iload_n 3, 1) := by decide +kernel
theorem dL_law_639 : decode code 639 = .ok (.iconst 1, 1) := by decide +kernel
theorem dL_law_640 : decode code 640 = .ok (.iadd, 1) := by decide +kernel
theorem dL_law_641 : decode code 641 = .ok (.iaload, 1) := by decide +kernel
theorem dL_law_642 : decode code 642 = .ok (.invokevirtual 73, 3) := by decide +kernel
theorem dL_law_645 : decode code 645 = .ok (.aload_n 2, 1) := by decide +kernel
theorem dL_law_646 : decode code 646 = .ok (.aload_n 0, 1) := by decide +kernel
theorem dL_law_647 : decode code 647 = .ok (.iload_n 3, 1) := by decide +kernel
theorem dL_law_648 : decode code 648 = .ok (.iconst 1, 1) := by decide +kernel
theorem dL_law_649 : decode code 649 = .ok (.iadd, 1) := by decide +kernel
theorem dL_law_650 : decode code 650 = .ok (.iaload, 1) := by decide +kernel
theorem dL_law_651 : decode code 651 = .ok (.invokevirtual 76, 3) := by decide +kernel
theorem dL_law_654 : decode code 654 = .ok (.if_icmp .eq 707, 3) := by decide +kernel
theorem dL_law_657 : decode code 657 = .ok (.iconst 0, 1) := by decide +kernel
theorem dL_law_658 : decode code 658 = .ok (.ireturn, 1) := by decide +kernel
theorem dL_law_659 : decode code 659 = .ok (.aload_n 1, 1) := by decide +kernel
theorem dL_law_660 : decode code 660 = .ok (.invokevirtual 77, 3) := by decide +kernel
theorem dL_law_663 : decode code 663 = .ok (.aload_n 2, 1) := by decide +kernel
theorem dL_law_664 : decode code 664 = .ok (.invokevirtual 80, 3) := by decide +kernel
theorem dL_law_667 : decode code 667 = .ok (.if_icmp .eq 694, 3) := by decide +kernel
theorem dL_law_670 : decode code 670 = .ok (.iconst 0, 1) := by decide +kernel
theorem dL_law_671 : decode code 671 = .ok (.ireturn, 1) := by decide +kernel
theorem dL_law_672 : decode code 672 = .ok (.aload_n 1, 1) := by decide +kernel
theorem dL_law_673 : decode code 673 = .ok (.aload_n 0, 1) := by decide +kernel
theorem dL_law_674 : decode code 674 = .ok (.iload_n 3, 1) := by decide +kernel
theorem dL_law_675 : decode code 675 = .ok (.iconst 1, 1) := by decide +kernel
theorem dL_law_676 : decode code 676 = .ok (.iadd, 1) := by decide +kernel
theorem dL_law_677 : decode code 677 = .ok (.iaload, 1) := by decide +kernel
theorem dL_law_678 : decode code 678 = .ok (.aload_n 0, 1) := by decide +kernel
theorem dL_law_679 : decode code 679 = .ok (.iload_n 3, 1) := by decide +kernel
theorem dL_law_680 : decode code 680 = .ok (.iconst 2, 1) := by decide +kernel
theorem dL_law_681 : decode code 681 = .ok (.iadd, 1) := by decide +kernel
theorem dL_law_682 : decode code 682 = .ok (.iaload, 1) := by decide +kernel
theorem dL_law_683 : decode code 683 = .ok (.invokevirtual 81, 3) := by decide +kernel
theorem dL_law_686 : decode code 686 = .ok (.aload_n 2, 1) := by decide +kernel
theorem dL_law_687 : decode code 687 = .ok (.aload_n 0, 1) := by decide +kernel
theorem dL_law_688 : decode code 688 = .ok (.iload_n 3, 1) := by decide +kernel
theorem dL_law_689 : decode code 689 = .ok (.iconst 1, 1) := by decide +kernel
theorem dL_law_690 : decode code 690 = .ok (.iadd, 1) := by decide +kernel
theorem dL_law_691 : decode code 691 = .ok (.iaload, 1) := by decide +kernel
theorem dL_law_692 : decode code 692 = .ok (.aload_n 0, 1) := by decide +kernel
theorem dL_law_693 : decode code 693 = .ok (.iload_n 3, 1) := by decide +kernel
theorem dL_law_694 : decode code 694 = .ok (.iconst 2, 1) := by decide +kernel
theorem dL_law_695 : decode code 695 = .ok (.iadd, 1) := by decide +kernel
theorem dL_law_696 : decode code 696 = .ok (.iaload, 1) := by decide +kernel
theorem dL_law_697 : decode code 697 = .ok (.invokevirtual 84, 3) := by decide +kernel
theorem dL_law_700 : decode code 700 = .ok (.if_icmp .eq 661, 3) := by decide +kernel
theorem dL_law_703 : decode code 703 = .ok (.iconst 0, 1) := by decide +kernel
theorem dL_law_704 : decode code 704 = .ok (.ireturn, 1) := by decide +kernel
theorem dL_law_705 : decode code 705 = .ok (.aload_n 1, 1) := by decide +kernel
theorem dL_law_706 : decode code 706 = .ok (.aload_n 0, 1) := by decide +kernel
theorem dL_law_707 : decode code 707 = .ok (.iload_n 3, 1) := by decide +kernel
theorem dL_law_708 : decode code 708 = .ok (.iconst 1, 1) := by decide +kernel
theorem dL_law_709 : decode code 709 = .ok (.iadd, 1) := by decide +kernel
theorem dL_law_710 : decode code 710 = .ok (.iaload, 1) := by decide +kernel
theorem dL_law_711 : decode code 711 = .ok (.invokevirtual 85, 3) := by decide +kernel
theorem dL_law_714 : decode code 714 = .ok (.aload_n 2, 1) := by decide +kernel
theorem dL_law_715 : decode code 715 = .ok (.aload_n 0, 1) := by decide +kernel
theorem dL_law_716 : decode code 716 = .ok (.iload_n 3, 1) := by decide +kernel
theorem dL_law_717 : decode code 717 = .ok (.iconst 1, 1) := by decide +kernel
theorem dL_law_718 : decode code 718 = .ok (.iadd, 1) := by decide +kernel
theorem dL_law_719 : decode code 719 = .ok (.iaload, 1) := by decide +kernel
theorem dL_law_720 : decode code 720 = .ok (.invokevirtual 88, 3) := by decide +kernel
theorem dL_law_723 : decode code 723 = .ok (.if_icmp .eq 638, 3) := by decide +kernel
theorem dL_law_726 : decode code 726 = .ok (.iconst 0, 1) := by decide +kernel
theorem dL_law_727 : decode code 727 = .ok (.ireturn, 1) := by decide +kernel
theorem dL_law_728 : decode code 728 = .ok (.aload_n 1, 1) := by decide +kernel
theorem dL_law_729 : decode code 729 = .ok (.aload_n 0, 1) := by decide +kernel
theorem dL_law_730 : decode code 730 = .ok (.iload_n 3, 1) := by decide +kernel
theorem dL_law_731 : decode code 731 = .ok (.iconst 1, 1) := by decide +kernel
theorem dL_law_732 : decode code 732 = .ok (.iadd, 1) := by decide +kernel
theorem dL_law_733 : decode code 733 = .ok (.iaload, 1) := by decide +kernel
theorem dL_law_734 : decode code 734 = .ok (.aload_n 0, 1) := by decide +kernel
theorem dL_law_735 : decode code 735 = .ok (.iload_n 3, 1) := by decide +kernel
theorem dL_law_736 : decode code 736 = .ok (.iconst 2, 1) := by decide +kernel
theorem dL_law_737 : decode code 737 = .ok (.iadd, 1) := by decide +kernel
theorem dL_law_738 : decode code 738 = .ok (.iaload, 1) := by decide +kernel
theorem dL_law_739 : decode code 739 = .ok (.invokevirtual 89, 3) := by decide +kernel
theorem dL_law_742 : decode code 742 = .ok (.aload_n 2, 1) := by decide +kernel
theorem dL_law_743 : decode code 743 = .ok (.aload_n 0, 1) := by decide +kernel
theorem dL_law_744 : decode code 744 = .ok (.iload_n 3, 1) := by decide +kernel
theorem dL_law_745 : decode code 745 = .ok (.iconst 1, 1) := by decide +kernel
theorem dL_law_746 : decode code 746 = .ok (.iadd, 1) := by decide +kernel
theorem dL_law_747 : decode code 747 = .ok (.iaload, 1) := by decide +kernel
theorem dL_law_748 : decode code 748 = .ok (.aload_n 0, 1) := by decide +kernel
theorem dL_law_749 : decode code 749 = .ok (.iload_n 3, 1) := by decide +kernel
theorem dL_law_750 : decode code 750 = .ok (.iconst 2, 1) := by decide +kernel
theorem dL_law_751 : decode code 751 = .ok (.iadd, 1) := by decide +kernel
theorem dL_law_752 : decode code 752 = .ok (.iaload, 1) := by decide +kernel
theorem dL_law_753 : decode code 753 = .ok (.invokevirtual 92, 3) := by decide +kernel
theorem dL_law_756 : decode code 756 = .ok (.if_icmp .eq 605, 3) := by decide +kernel
theorem dL_law_759 : decode code 759 = .ok (.iconst 0, 1) := by decide +kernel
theorem dL_law_760 : decode code 760 = .ok (.ireturn, 1) := by decide +kernel
theorem dL_law_761 : decode code 761 = .ok (.aload_n 1, 1) := by decide +kernel
theorem dL_law_762 : decode code 762 = .ok (.aload_n 0, 1) := by decide +kernel
theorem dL_law_763 : decode code 763 = .ok (.iload_n 3, 1) := by decide +kernel
theorem dL_law_764 : decode code 764 = .ok (.iconst 1, 1) := by decide +kernel
theorem dL_law_765 : decode code 765 = .ok (.iadd, 1) := by decide +kernel
theorem dL_law_766 : decode code 766 = .ok (.iaload, 1) := by decide +kernel
theorem dL_law_767 : decode code 767 = .ok (.aload_n 0, 1) := by decide +kernel
theorem dL_law_768 : decode code 768 = .ok (.iload_n 3, 1) := by decide +kernel
theorem dL_law_769 : decode code 769 = .ok (.iconst 2, 1) := by decide +kernel
theorem dL_law_770 : decode code 770 = .ok (.iadd, 1) := by decide +kernel
theorem dL_law_771 : decode code 771 = .ok (.iaload, 1) := by decide +kernel
theorem dL_law_772 : decode code 772 = .ok (.invokevirtual 93, 3) := by decide +kernel
theorem dL_law_775 : decode code 775 = .ok (.aload_n 2, 1) := by decide +kernel
theorem dL_law_776 : decode code 776 = .ok (.aload_n 0, 1) := by decide +kernel
theorem dL_law_777 : decode code 777 = .ok (.iload_n 3, 1) := by decide +kernel
theorem dL_law_778 : decode code 778 = .ok (.iconst 1, 1) := by decide +kernel
theorem dL_law_779 : decode code 779 = .ok (.iadd, 1) := by decide +kernel
theorem dL_law_780 : decode code 780 = .ok (.iaload, 1) := by decide +kernel
theorem dL_law_781 : decode code 781 = .ok (.aload_n 0, 1) := by decide +kernel
theorem dL_law_782 : decode code 782 = .ok (.iload_n 3, 1) := by decide +kernel
theorem dL_law_783 : decode code 783 = .ok (.iconst 2, 1) := by decide +kernel
theorem dL_law_784 : decode code 784 = .ok (.iadd, 1) := by decide +kernel
theorem dL_law_785 : decode code 785 = .ok (.iaload, 1) := by decide +kernel
theorem dL_law_786 : decode code 786 = .ok (.invokevirtual 96, 3) := by decide +kernel
theorem dL_law_789 : decode code 789 = .ok (.if_icmp .eq 572, 3) := by decide +kernel
theorem dL_law_792 : decode code 792 = .ok (.iconst 0, 1) := by decide +kernel
theorem dL_law_793 : decode code 793 = .ok (.ireturn, 1) := by decide +kernel
theorem dL_law_794 : decode code 794 = .ok (.aload_n 1, 1) := by decide +kernel
theorem dL_law_795 : decode code 795 = .ok (.aload_n 0, 1) := by decide +kernel
theorem dL_law_796 : decode code 796 = .ok (.iload_n 3, 1) := by decide +kernel
theorem dL_law_797 : decode code 797 = .ok (.iconst 1, 1) := by decide +kernel
theorem dL_law_798 : decode code 798 = .ok (.iadd, 1) := by decide +kernel
theorem dL_law_799 : decode code 799 = .ok (.iaload, 1) := by decide +kernel
theorem dL_law_800 : decode code 800 = .ok (.aload_n 0, 1) := by decide +kernel
theorem dL_law_801 : decode code 801 = .ok (.iload_n 3, 1) := by decide +kernel
theorem dL_law_802 : decode code 802 = .ok (.iconst 2, 1) := by decide +kernel
theorem dL_law_803 : decode code 803 = .ok (.iadd, 1) := by decide +kernel
theorem dL_law_804 : decode code 804 = .ok (.iaload, 1) := by decide +kernel
theorem dL_law_805 : decode code 805 = .ok (.aload_n 0, 1) := by decide +kernel
theorem dL_law_806 : decode code 806 = .ok (.iload_n 3, 1) := by decide +kernel
theorem dL_law_807 : decode code 807 = .ok (.iconst 3, 1) := by decide +kernel
theorem dL_law_808 : decode code 808 = .ok (.iadd, 1) := by decide +kernel
theorem dL_law_809 : decode code 809 = .ok (.iaload, 1) := by decide +kernel
theorem dL_law_810 : decode code 810 = .ok (.invokevirtual 97, 3) := by decide +kernel
theorem dL_law_813 : decode code 813 = .ok (.aload_n 2, 1) := by decide +kernel
theorem dL_law_814 : decode code 814 = .ok (.aload_n 0, 1) := by decide +kernel
theorem dL_law_815 : decode code 815 = .ok (.iload_n 3, 1) := by decide +kernel
theorem dL_law_816 : decode code 816 = .ok (.iconst 1, 1) := by decide +kernel
theorem dL_law_817 : decode code 817 = .ok (.iadd, 1) := by decide +kernel
theorem dL_law_818 : decode code 818 = .ok (.iaload, 1) := by decide +kernel
theorem dL_law_819 : decode code 819 = .ok (.aload_n 0, 1) := by decide +kernel
theorem dL_law_820 : decode code 820 = .ok (.iload_n 3, 1) := by decide +kernel
theorem dL_law_821 : decode code 821 = .ok (.iconst 2, 1) := by decide +kernel
theorem dL_law_822 : decode code 822 = .ok (.iadd, 1) := by decide +kernel
theorem dL_law_823 : decode code 823 = .ok (.iaload, 1) := by decide +kernel
theorem dL_law_824 : decode code 824 = .ok (.aload_n 0, 1) := by decide +kernel
theorem dL_law_825 : decode code 825 = .ok (.iload_n 3, 1) := by decide +kernel
theorem dL_law_826 : decode code 826 = .ok (.iconst 3, 1) := by decide +kernel
theorem dL_law_827 : decode code 827 = .ok (.iadd, 1) := by decide +kernel
theorem dL_law_828 : decode code 828 = .ok (.iaload, 1) := by decide +kernel
theorem dL_law_829 : decode code 829 = .ok (.invokevirtual 100, 3) := by decide +kernel
theorem dL_law_832 : decode code 832 = .ok (.if_icmp .eq 529, 3) := by decide +kernel
theorem dL_law_835 : decode code 835 = .ok (.iconst 0, 1) := by decide +kernel
theorem dL_law_836 : decode code 836 = .ok (.ireturn, 1) := by decide +kernel
theorem dL_law_837 : decode code 837 = .ok (.aload_n 1, 1) := by decide +kernel
theorem dL_law_838 : decode code 838 = .ok (.aload_n 0, 1) := by decide +kernel
theorem dL_law_839 : decode code 839 = .ok (.iload_n 3, 1) := by decide +kernel
theorem dL_law_840 : decode code 840 = .ok (.iconst 1, 1) := by decide +kernel
theorem dL_law_841 : decode code 841 = .ok (.iadd, 1) := by decide +kernel
theorem dL_law_842 : decode code 842 = .ok (.iaload, 1) := by decide +kernel
theorem dL_law_843 : decode code 843 = .ok (.invokevirtual 101, 3) := by decide +kernel
theorem dL_law_846 : decode code 846 = .ok (.aload_n 2, 1) := by decide +kernel
theorem dL_law_847 : decode code 847 = .ok (.aload_n 0, 1) := by decide +kernel
theorem dL_law_848 : decode code 848 = .ok (.iload_n 3, 1) := by decide +kernel
theorem dL_law_849 : decode code 849 = .ok (.iconst 1, 1) := by decide +kernel
theorem dL_law_850 : decode code 850 = .ok (.iadd, 1) := by decide +kernel
theorem dL_law_851 : decode code 851 = .ok (.iaload, 1) := by decide +kernel
theorem dL_law_852 : decode code 852 = .ok (.invokevirtual 104, 3) := by decide +kernel
theorem dL_law_855 : decode code 855 = .ok (.if_icmp .eq 506, 3) := by decide +kernel
theorem dL_law_858 : decode code 858 = .ok (.iconst 0, 1) := by decide +kernel
theorem dL_law_859 : decode code 859 = .ok (.ireturn, 1) := by decide +kernel
theorem dL_law_860 : decode code 860 = .ok (.aload_n 1, 1) := by decide +kernel
theorem dL_law_861 : decode code 861 = .ok (.invokevirtual 105, 3) := by decide +kernel
theorem dL_law_864 : decode code 864 = .ok (.aload_n 2, 1) := by decide +kernel
theorem dL_law_865 : decode code 865 = .ok (.invokevirtual 108, 3) := by decide +kernel
theorem dL_law_868 : decode code 868 = .ok (.if_icmp .eq 493, 3) := by decide +kernel
theorem dL_law_871 : decode code 871 = .ok (.iconst 0, 1) := by decide +kernel
theorem dL_law_872 : decode code 872 = .ok (.ireturn, 1) := by decide +kernel
theorem dL_law_873 : decode code 873 = .ok (.aload_n 1, 1) := by decide +kernel
theorem dL_law_874 : decode code 874 = .ok (.aload_n 0, 1) := by decide +kernel
theorem dL_law_875 : decode code 875 = .ok (.iload_n 3, 1) := by decide +kernel
theorem dL_law_876 : decode code 876 = .ok (.iconst 1, 1) := by decide +kernel
theorem dL_law_877 : decode code 877 = .ok (.iadd, 1) := by decide +kernel
theorem dL_law_878 : decode code 878 = .ok (.iaload, 1) := by decide +kernel
theorem dL_law_879 : decode code 879 = .ok (.aload_n 0, 1) := by decide +kernel
theorem dL_law_880 : decode code 880 = .ok (.iload_n 3, 1) := by decide +kernel
theorem dL_law_881 : decode code 881 = .ok (.iconst 2, 1) := by decide +kernel
theorem dL_law_882 : decode code 882 = .ok (.iadd, 1) := by decide +kernel
theorem dL_law_883 : decode code 883 = .ok (.iaload, 1) := by decide +kernel
theorem dL_law_884 : decode code 884 = .ok (.invokevirtual 109, 3) := by decide +kernel
theorem dL_law_887 : decode code 887 = .ok (.aload_n 2, 1) := by decide +kernel
theorem dL_law_888 : decode code 888 = .ok (.aload_n 0, 1) := by decide +kernel
theorem dL_law_889 : decode code 889 = .ok (.iload_n 3, 1) := by decide +kernel
theorem dL_law_890 : decode code 890 = .ok (.iconst 1, 1) := by decide +kernel
theorem dL_law_891 : decode code 891 = .ok (.iadd, 1) := by decide +kernel
theorem dL_law_892 : decode code 892 = .ok (.iaload, 1) := by decide +kernel
theorem dL_law_893 : decode code 893 = .ok (.aload_n 0, 1) := by decide +kernel
theorem dL_law_894 : decode code 894 = .ok (.iload_n 3, 1) := by decide +kernel
theorem dL_law_895 : decode code 895 = .ok (.iconst 2, 1) := by decide +kernel
theorem dL_law_896 : decode code 896 = .ok (.iadd, 1) := by decide +kernel
theorem dL_law_897 : decode code 897 = .ok (.iaload, 1) := by decide +kernel
theorem dL_law_898 : decode code 898 = .ok (.invokevirtual 112, 3) := by decide +kernel
theorem dL_law_901 : decode code 901 = .ok (.if_icmp .eq 460, 3) := by decide +kernel
theorem dL_law_904 : decode code 904 = .ok (.iconst 0, 1) := by decide +kernel
theorem dL_law_905 : decode code 905 = .ok (.ireturn, 1) := by decide +kernel
theorem dL_law_906 : decode code 906 = .ok (.aload_n 1, 1) := by decide +kernel
theorem dL_law_907 : decode code 907 = .ok (.aload_n 0, 1) := by decide +kernel
theorem dL_law_908 : decode code 908 = .ok (.iload_n 3, 1) := by decide +kernel
theorem dL_law_909 : decode code 909 = .ok (.iconst 1, 1) := by decide +kernel
theorem dL_law_910 : decode code 910 = .ok (.iadd, 1) := by decide +kernel
theorem dL_law_911 : decode code 911 = .ok (.iaload, 1) := by decide +kernel
theorem dL_law_912 : decode code 912 = .ok (.invokevirtual 113, 3) := by decide +kernel
theorem dL_law_915 : decode code 915 = .ok (.aload_n 2, 1) := by decide +kernel
theorem dL_law_916 : decode code 916 = .ok (.aload_n 0, 1) := by decide +kernel
theorem dL_law_917 : decode code 917 = .ok (.iload_n 3, 1) := by decide +kernel
theorem dL_law_918 : decode code 918 = .ok (.iconst 1, 1) := by decide +kernel
theorem dL_law_919 : decode code 919 = .ok (.iadd, 1) := by decide +kernel
theorem dL_law_920 : decode code 920 = .ok (.iaload, 1) := by decide +kernel
theorem dL_law_921 : decode code 921 = .ok (.invokevirtual 116, 3) := by decide +kernel
theorem dL_law_924 : decode code 924 = .ok (.if_icmp .eq 437, 3) := by decide +kernel
theorem dL_law_927 : decode code 927 = .ok (.iconst 0, 1) := by decide +kernel
theorem dL_law_928 : decode code 928 = .ok (.ireturn, 1) := by decide +kernel
theorem dL_law_929 : decode code 929 = .ok (.aload_n 1, 1) := by decide +kernel
theorem dL_law_930 : decode code 930 = .ok (.aload_n 0, 1) := by decide +kernel
theorem dL_law_931 : decode code 931 = .ok (.iload_n 3, 1) := by decide +kernel
theorem dL_law_932 : decode code 932 = .ok (.iconst 1, 1) := by decide +kernel
theorem dL_law_933 : decode code 933 = .ok (.iadd, 1) := by decide +kernel
theorem dL_law_934 : decode code 934 = .ok (.iaload, 1) := by decide +kernel
theorem dL_law_935 : decode code 935 = .ok (.aload_n 0, 1) := by decide +kernel
theorem dL_law_936 : decode code 936 = .ok (.iload_n 3, 1) := by decide +kernel
theorem dL_law_937 : decode code 937 = .ok (.iconst 2, 1) := by decide +kernel
theorem dL_law_938 : decode code 938 = .ok (.iadd, 1) := by decide +kernel
theorem dL_law_939 : decode code 939 = .ok (.iaload, 1) := by decide +kernel
theorem dL_law_940 : decode code 940 = .ok (.aload_n 0, 1) := by decide +kernel
theorem dL_law_941 : decode code 941 = .ok (.iload_n 3, 1) := by decide +kernel
theorem dL_law_942 : decode code 942 = .ok (.iconst 3, 1) := by decide +kernel
theorem dL_law_943 : decode code 943 = .ok (.iadd, 1) := by decide +kernel
theorem dL_law_944 : decode code 944 = .ok (.iaload, 1) := by decide +kernel
theorem dL_law_945 : decode code 945 = .ok (.invokevirtual 117, 3) := by decide +kernel
theorem dL_law_948 : decode code 948 = .ok (.aload_n 2, 1) := by decide +kernel
theorem dL_law_949 : decode code 949 = .ok (.aload_n 0, 1) := by decide +kernel
theorem dL_law_950 : decode code 950 = .ok (.iload_n 3, 1) := by decide +kernel
theorem dL_law_951 : decode code 951 = .ok (.iconst 1, 1) := by decide +kernel
theorem dL_law_952 : decode code 952 = .ok (.iadd, 1) := by decide +kernel
theorem dL_law_953 : decode code 953 = .ok (.iaload, 1) := by decide +kernel
theorem dL_law_954 : decode code 954 = .ok (.aload_n 0, 1) := by decide +kernel
theorem dL_law_955 : decode code 955 = .ok (.iload_n 3, 1) := by decide +kernel
theorem dL_law_956 : decode code 956 = .ok (.iconst 2, 1) := by decide +kernel
theorem dL_law_957 : decode code 957 = .ok (.iadd, 1) := by decide +kernel
theorem dL_law_958 : decode code 958 = .ok (.iaload, 1) := by decide +kernel
theorem dL_law_959 : decode code 959 = .ok (.aload_n 0, 1) := by decide +kernel
theorem dL_law_960 : decode code 960 = .ok (.iload_n 3, 1) := by decide +kernel
theorem dL_law_961 : decode code 961 = .ok (.iconst 3, 1) := by decide +kernel
theorem dL_law_962 : decode code 962 = .ok (.iadd, 1) := by decide +kernel
theorem dL_law_963 : decode code 963 = .ok (.iaload, 1) := by decide +kernel
theorem dL_law_964 : decode code 964 = .ok (.invokevirtual 120, 3) := by decide +kernel
theorem dL_law_967 : decode code 967 = .ok (.if_icmp .eq 394, 3) := by decide +kernel
theorem dL_law_970 : decode code 970 = .ok (.iconst 0, 1) := by decide +kernel
theorem dL_law_971 : decode code 971 = .ok (.ireturn, 1) := by decide +kernel
theorem dL_law_972 : decode code 972 = .ok (.aload_n 1, 1) := by decide +kernel
theorem dL_law_973 : decode code 973 = .ok (.aload_n 0, 1) := by decide +kernel
theorem dL_law_974 : decode code 974 = .ok (.iload_n 3, 1) := by decide +kernel
theorem dL_law_975 : decode code 975 = .ok (.iconst 1, 1) := by decide +kernel
theorem dL_law_976 : decode code 976 = .ok (.iadd, 1) := by decide +kernel
theorem dL_law_977 : decode code 977 = .ok (.iaload, 1) := by decide +kernel
theorem dL_law_978 : decode code 978 = .ok (.aload_n 0, 1) := by decide +kernel
theorem dL_law_979 : decode code 979 = .ok (.iload_n 3, 1) := by decide +kernel
theorem dL_law_980 : decode code 980 = .ok (.iconst 2, 1) := by decide +kernel
theorem dL_law_981 : decode code 981 = .ok (.iadd, 1) := by decide +kernel
theorem dL_law_982 : decode code 982 = .ok (.iaload, 1) := by decide +kernel
theorem dL_law_983 : decode code 983 = .ok (.aload_n 0, 1) := by decide +kernel
theorem dL_law_984 : decode code 984 = .ok (.iload_n 3, 1) := by decide +kernel
theorem dL_law_985 : decode code 985 = .ok (.iconst 3, 1) := by decide +kernel
theorem dL_law_986 : decode code 986 = .ok (.iadd, 1) := by decide +kernel
theorem dL_law_987 : decode code 987 = .ok (.iaload, 1) := by decide +kernel
theorem dL_law_988 : decode code 988 = .ok (.invokevirtual 121, 3) := by decide +kernel
theorem dL_law_991 : decode code 991 = .ok (.aload_n 2, 1) := by decide +kernel
theorem dL_law_992 : decode code 992 = .ok (.aload_n 0, 1) := by decide +kernel
theorem dL_law_993 : decode code 993 = .ok (.iload_n 3, 1) := by decide +kernel
theorem dL_law_994 : decode code 994 = .ok (.iconst 1, 1) := by decide +kernel
theorem dL_law_995 : decode code 995 = .ok (.iadd, 1) := by decide +kernel
theorem dL_law_996 : decode code 996 = .ok (.iaload, 1) := by decide +kernel
theorem dL_law_997 : decode code 997 = .ok (.aload_n 0, 1) := by decide +kernel
theorem dL_law_998 : decode code 998 = .ok (.iload_n 3, 1) := by decide +kernel
theorem dL_law_999 : decode code 999 = .ok (.iconst 2, 1) := by decide +kernel
theorem dL_law_1000 : decode code 1000 = .ok (.iadd, 1) := by decide +kernel
theorem dL_law_1001 : decode code 1001 = .ok (.iaload, 1) := by decide +kernel
theorem dL_law_1002 : decode code 1002 = .ok (.aload_n 0, 1) := by decide +kernel
theorem dL_law_1003 : decode code 1003 = .ok (.iload_n 3, 1) := by decide +kernel
theorem dL_law_1004 : decode code 1004 = .ok (.iconst 3, 1) := by decide +kernel
theorem dL_law_1005 : decode code 1005 = .ok (.iadd, 1) := by decide +kernel
theorem dL_law_1006 : decode code 1006 = .ok (.iaload, 1) := by decide +kernel
theorem dL_law_1007 : decode code 1007 = .ok (.invokevirtual 124, 3) := by decide +kernel
theorem dL_law_1010 : decode code 1010 = .ok (.if_icmp .eq 351, 3) := by decide +kernel
theorem dL_law_1013 : decode code 1013 = .ok (.iconst 0, 1) := by decide +kernel
theorem dL_law_1014 : decode code 1014 = .ok (.ireturn, 1) := by decide +kernel
theorem dL_law_1015 : decode code 1015 = .ok (.aload_n 1, 1) := by decide +kernel
theorem dL_law_1016 : decode code 1016 = .ok (.aload_n 0, 1) := by decide +kernel
theorem dL_law_1017 : decode code 1017 = .ok (.iload_n 3, 1) := by decide +kernel
theorem dL_law_1018 : decode code 1018 = .ok (.iconst 1, 1) := by decide +kernel
theorem dL_law_1019 : decode code 1019 = .ok (.iadd, 1) := by decide +kernel
theorem dL_law_1020 : decode code 1020 = .ok (.iaload, 1) := by decide +kernel
theorem dL_law_1021 : decode code 1021 = .ok (.invokevirtual 125, 3) := by decide +kernel
theorem dL_law_1024 : decode code 1024 = .ok (.aload_n 2, 1) := by decide +kernel
theorem dL_law_1025 : decode code 1025 = .ok (.aload_n 0, 1) := by decide +kernel
theorem dL_law_1026 : decode code 1026 = .ok (.iload_n 3, 1) := by decide +kernel
theorem dL_law_1027 : decode code 1027 = .ok (.iconst 1, 1) := by decide +kernel
theorem dL_law_1028 : decode code 1028 = .ok (.iadd, 1) := by decide +kernel
theorem dL_law_1029 : decode code 1029 = .ok (.iaload, 1) := by decide +kernel
theorem dL_law_1030 : decode code 1030 = .ok (.invokevirtual 128, 3) := by decide +kernel
theorem dL_law_1033 : decode code 1033 = .ok (.if_icmp .eq 328, 3) := by decide +kernel
theorem dL_law_1036 : decode code 1036 = .ok (.iconst 0, 1) := by decide +kernel
theorem dL_law_1037 : decode code 1037 = .ok (.ireturn, 1) := by decide +kernel
theorem dL_law_1038 : decode code 1038 = .ok (.aload_n 1, 1) := by decide +kernel
theorem dL_law_1039 : decode code 1039 = .ok (.aload_n 0, 1) := by decide +kernel
theorem dL_law_1040 : decode code 1040 = .ok (.iload_n 3, 1) := by decide +kernel
theorem dL_law_1041 : decode code 1041 = .ok (.iconst 1, 1) := by decide +kernel
theorem dL_law_1042 : decode code 1042 = .ok (.iadd, 1) := by decide +kernel
theorem dL_law_1043 : decode code 1043 = .ok (.iaload, 1) := by decide +kernel
theorem dL_law_1044 : decode code 1044 = .ok (.invokevirtual 129, 3) := by decide +kernel
theorem dL_law_1047 : decode code 1047 = .ok (.aload_n 2, 1) := by decide +kernel
theorem dL_law_1048 : decode code 1048 = .ok (.aload_n 0, 1) := by decide +kernel
theorem dL_law_1049 : decode code 1049 = .ok (.iload_n 3, 1) := by decide +kernel
theorem dL_law_1050 : decode code 1050 = .ok (.iconst 1, 1) := by decide +kernel
theorem dL_law_1051 : decode code 1051 = .ok (.iadd, 1) := by decide +kernel
theorem dL_law_1052 : decode code 1052 = .ok (.iaload, 1) := by decide +kernel
theorem dL_law_1053 : decode code 1053 = .ok (.invokevirtual 132, 3) := by decide +kernel
theorem dL_law_1056 : decode code 1056 = .ok (.if_icmp .eq 305, 3) := by decide +kernel
theorem dL_law_1059 : decode code 1059 = .ok (.iconst 0, 1) := by decide +kernel
theorem dL_law_1060 : decode code 1060 = .ok (.ireturn, 1) := by decide +kernel
theorem dL_law_1061 : decode code 1061 = .ok (.aload_n 1, 1) := by decide +kernel
theorem dL_law_1062 : decode code 1062 = .ok (.aload_n 0, 1) := by decide +kernel
theorem dL_law_1063 : decode code 1063 = .ok (.iload_n 3, 1) := by decide +kernel
theorem dL_law_1064 : decode code 1064 = .ok (.iconst 1, 1) := by decide +kernel
theorem dL_law_1065 : decode code 1065 = .ok (.iadd, 1) := by decide +kernel
theorem dL_law_1066 : decode code 1066 = .ok (.iaload, 1) := by decide +kernel
theorem dL_law_1067 : decode code 1067 = .ok (.aload_n 0, 1) := by decide +kernel
theorem dL_law_1068 : decode code 1068 = .ok (.iload_n 3, 1) := by decide +kernel
theorem dL_law_1069 : decode code 1069 = .ok (.iconst 2, 1) := by decide +kernel
theorem dL_law_1070 : decode code 1070 = .ok (.iadd, 1) := by decide +kernel
theorem dL_law_1071 : decode code 1071 = .ok (.iaload, 1) := by decide +kernel
theorem dL_law_1072 : decode code 1072 = .ok (.aload_n 0, 1) := by decide +kernel
theorem dL_law_1073 : decode code 1073 = .ok (.iload_n 3, 1) := by decide +kernel
theorem dL_law_1074 : decode code 1074 = .ok (.iconst 3, 1) := by decide +kernel
theorem dL_law_1075 : decode code 1075 = .ok (.iadd, 1) := by decide +kernel
theorem dL_law_1076 : decode code 1076 = .ok (.iaload, 1) := by decide +kernel
theorem dL_law_1077 : decode code 1077 = .ok (.aload_n 0, 1) := by decide +kernel
theorem dL_law_1078 : decode code 1078 = .ok (.iload_n 3, 1) := by decide +kernel
theorem dL_law_1079 : decode code 1079 = .ok (.iconst 4, 1) := by decide +kernel
theorem dL_law_1080 : decode code 1080 = .ok (.iadd, 1) := by decide +kernel
theorem dL_law_1081 : decode code 1081 = .ok (.iaload, 1) := by decide +kernel
theorem dL_law_1082 : decode code 1082 = .ok (.aload_n 0, 1) := by decide +kernel
theorem dL_law_1083 : decode code 1083 = .ok (.iload_n 3, 1) := by decide +kernel
theorem dL_law_1084 : decode code 1084 = .ok (.iconst 5, 1) := by decide +kernel
theorem dL_law_1085 : decode code 1085 = .ok (.iadd, 1) := by decide +kernel
theorem dL_law_1086 : decode code 1086 = .ok (.iaload, 1) := by decide +kernel
theorem dL_law_1087 : decode code 1087 = .ok (.invokevirtual 133, 3) := by decide +kernel
theorem dL_law_1090 : decode code 1090 = .ok (.aload_n 2, 1) := by decide +kernel
theorem dL_law_1091 : decode code 1091 = .ok (.aload_n 0, 1) := by decide +kernel
theorem dL_law_1092 : decode code 1092 = .ok (.iload_n 3, 1) := by decide +kernel
theorem dL_law_1093 : decode code 1093 = .ok (.iconst 1, 1) := by decide +kernel
theorem dL_law_1094 : decode code 1094 = .ok (.iadd, 1) := by decide +kernel
theorem dL_law_1095 : decode code 1095 = .ok (.iaload, 1) := by decide +kernel
theorem dL_law_1096 : decode code 1096 = .ok (.aload_n 0, 1) := by decide +kernel
theorem dL_law_1097 : decode code 1097 = .ok (.iload_n 3, 1) := by decide +kernel
theorem dL_law_1098 : decode code 1098 = .ok (.iconst 2, 1) := by decide +kernel
theorem dL_law_1099 : decode code 1099 = .ok (.iadd, 1) := by decide +kernel
theorem dL_law_1100 : decode code 1100 = .ok (.iaload, 1) := by decide +kernel
theorem dL_law_1101 : decode code 1101 = .ok (.aload_n 0, 1) := by decide +kernel
theorem dL_law_1102 : decode code 1102 = .ok (.iload_n 3, 1) := by decide +kernel
theorem dL_law_1103 : decode code 1103 = .ok (.iconst 3, 1) := by decide +kernel
theorem dL_law_1104 : decode code 1104 = .ok (.iadd, 1) := by decide +kernel
theorem dL_law_1105 : decode code 1105 = .ok (.iaload, 1) := by decide +kernel
theorem dL_law_1106 : decode code 1106 = .ok (.aload_n 0, 1) := by decide +kernel
theorem dL_law_1107 : decode code 1107 = .ok (.iload_n 3, 1) := by decide +kernel
theorem dL_law_1108 : decode code 1108 = .ok (.iconst 4, 1) := by decide +kernel
theorem dL_law_1109 : decode code 1109 = .ok (.iadd, 1) := by decide +kernel
theorem dL_law_1110 : decode code 1110 = .ok (.iaload, 1) := by decide +kernel
theorem dL_law_1111 : decode code 1111 = .ok (.aload_n 0, 1) := by decide +kernel
theorem dL_law_1112 : decode code 1112 = .ok (.iload_n 3, 1) := by decide +kernel
theorem dL_law_1113 : decode code 1113 = .ok (.iconst 5, 1) := by decide +kernel
theorem dL_law_1114 : decode code 1114 = .ok (.iadd, 1) := by decide +kernel
theorem dL_law_1115 : decode code 1115 = .ok (.iaload, 1) := by decide +kernel
theorem dL_law_1116 : decode code 1116 = .ok (.invokevirtual 137, 3) := by decide +kernel
theorem dL_law_1119 : decode code 1119 = .ok (.if_icmp .eq 242, 3) := by decide +kernel
theorem dL_law_1122 : decode code 1122 = .ok (.iconst 0, 1) := by decide +kernel
theorem dL_law_1123 : decode code 1123 = .ok (.ireturn, 1) := by decide +kernel
theorem dL_law_1124 : decode code 1124 = .ok (.aload_n 1, 1) := by decide +kernel
theorem dL_law_1125 : decode code 1125 = .ok (.aload_n 0, 1) := by decide +kernel
theorem dL_law_1126 : decode code 1126 = .ok (.iload_n 3, 1) := by decide +kernel
theorem dL_law_1127 : decode code 1127 = .ok (.iconst 1, 1) := by decide +kernel
theorem dL_law_1128 : decode code 1128 = .ok (.iadd, 1) := by decide +kernel
theorem dL_law_1129 : decode code 1129 = .ok (.iaload, 1) := by decide +kernel
theorem dL_law_1130 : decode code 1130 = .ok (.aload_n 0, 1) := by decide +kernel
theorem dL_law_1131 : decode code 1131 = .ok (.iload_n 3, 1) := by decide +kernel
theorem dL_law_1132 : decode code 1132 = .ok (.iconst 2, 1) := by decide +kernel
theorem dL_law_1133 : decode code 1133 = .ok (.iadd, 1) := by decide +kernel
theorem dL_law_1134 : decode code 1134 = .ok (.iaload, 1) := by decide +kernel
theorem dL_law_1135 : decode code 1135 = .ok (.aload_n 0, 1) := by decide +kernel
theorem dL_law_1136 : decode code 1136 = .ok (.iload_n 3, 1) := by decide +kernel
theorem dL_law_1137 : decode code 1137 = .ok (.iconst 3, 1) := by decide +kernel
theorem dL_law_1138 : decode code 1138 = .ok (.iadd, 1) := by decide +kernel
theorem dL_law_1139 : decode code 1139 = .ok (.iaload, 1) := by decide +kernel
theorem dL_law_1140 : decode code 1140 = .ok (.invokevirtual 138, 3) := by decide +kernel
theorem dL_law_1143 : decode code 1143 = .ok (.aload_n 2, 1) := by decide +kernel
theorem dL_law_1144 : decode code 1144 = .ok (.aload_n 0, 1) := by decide +kernel
theorem dL_law_1145 : decode code 1145 = .ok (.iload_n 3, 1) := by decide +kernel
theorem dL_law_1146 : decode code 1146 = .ok (.iconst 1, 1) := by decide +kernel
theorem dL_law_1147 : decode code 1147 = .ok (.iadd, 1) := by decide +kernel
theorem dL_law_1148 : decode code 1148 = .ok (.iaload, 1) := by decide +kernel
theorem dL_law_1149 : decode code 1149 = .ok (.aload_n 0, 1) := by decide +kernel
theorem dL_law_1150 : decode code 1150 = .ok (.iload_n 3, 1) := by decide +kernel
theorem dL_law_1151 : decode code 1151 = .ok (.iconst 2, 1) := by decide +kernel
theorem dL_law_1152 : decode code 1152 = .ok (.iadd, 1) := by decide +kernel
theorem dL_law_1153 : decode code 1153 = .ok (.iaload, 1) := by decide +kernel
theorem dL_law_1154 : decode code 1154 = .ok (.aload_n 0, 1) := by decide +kernel
theorem dL_law_1155 : decode code 1155 = .ok (.iload_n 3, 1) := by decide +kernel
theorem dL_law_1156 : decode code 1156 = .ok (.iconst 3, 1) := by decide +kernel
theorem dL_law_1157 : decode code 1157 = .ok (.iadd, 1) := by decide +kernel
theorem dL_law_1158 : decode code 1158 = .ok (.iaload, 1) := by decide +kernel
theorem dL_law_1159 : decode code 1159 = .ok (.invokevirtual 141, 3) := by decide +kernel
theorem dL_law_1162 : decode code 1162 = .ok (.if_icmp .eq 199, 3) := by decide +kernel
theorem dL_law_1165 : decode code 1165 = .ok (.iconst 0, 1) := by decide +kernel
theorem dL_law_1166 : decode code 1166 = .ok (.ireturn, 1) := by decide +kernel
theorem dL_law_1167 : decode code 1167 = .ok (.aload_n 1, 1) := by decide +kernel
theorem dL_law_1168 : decode code 1168 = .ok (.aload_n 0, 1) := by decide +kernel
theorem dL_law_1169 : decode code 1169 = .ok (.iload_n 3, 1) := by decide +kernel
theorem dL_law_1170 : decode code 1170 = .ok (.iconst 1, 1) := by decide +kernel
theorem dL_law_1171 : decode code 1171 = .ok (.iadd, 1) := by decide +kernel
theorem dL_law_1172 : decode code 1172 = .ok (.iaload, 1) := by decide +kernel
theorem dL_law_1173 : decode code 1173 = .ok (.aload_n 0, 1) := by decide +kernel
theorem dL_law_1174 : decode code 1174 = .ok (.iload_n 3, 1) := by decide +kernel
theorem dL_law_1175 : decode code 1175 = .ok (.iconst 2, 1) := by decide +kernel
theorem dL_law_1176 : decode code 1176 = .ok (.iadd, 1) := by decide +kernel
theorem dL_law_1177 : decode code 1177 = .ok (.iaload, 1) := by decide +kernel
theorem dL_law_1178 : decode code 1178 = .ok (.invokevirtual 142, 3) := by decide +kernel
theorem dL_law_1181 : decode code 1181 = .ok (.aload_n 2, 1) := by decide +kernel
theorem dL_law_1182 : decode code 1182 = .ok (.aload_n 0, 1) := by decide +kernel
theorem dL_law_1183 : decode code 1183 = .ok (.iload_n 3, 1) := by decide +kernel
theorem dL_law_1184 : decode code 1184 = .ok (.iconst 1, 1) := by decide +kernel
theorem dL_law_1185 : decode code 1185 = .ok (.iadd, 1) := by decide +kernel
theorem dL_law_1186 : decode code 1186 = .ok (.iaload, 1) := by decide +kernel
theorem dL_law_1187 : decode code 1187 = .ok (.aload_n 0, 1) := by decide +kernel
theorem dL_law_1188 : decode code 1188 = .ok (.iload_n 3, 1) := by decide +kernel
theorem dL_law_1189 : decode code 1189 = .ok (.iconst 2, 1) := by decide +kernel
theorem dL_law_1190 : decode code 1190 = .ok (.iadd, 1) := by decide +kernel
theorem dL_law_1191 : decode code 1191 = .ok (.iaload, 1) := by decide +kernel
theorem dL_law_1192 : decode code 1192 = .ok (.invokevirtual 145, 3) := by decide +kernel
theorem dL_law_1195 : decode code 1195 = .ok (.if_icmp .eq 166, 3) := by decide +kernel
theorem dL_law_1198 : decode code 1198 = .ok (.iconst 0, 1) := by decide +kernel
theorem dL_law_1199 : decode code 1199 = .ok (.ireturn, 1) := by decide +kernel
theorem dL_law_1200 : decode code 1200 = .ok (.aload_n 1, 1) := by decide +kernel
theorem dL_law_1201 : decode code 1201 = .ok (.aload_n 0, 1) := by decide +kernel
theorem dL_law_1202 : decode code 1202 = .ok (.iload_n 3, 1) := by decide +kernel
theorem dL_law_1203 : decode code 1203 = .ok (.iconst 1, 1) := by decide +kernel
theorem dL_law_1204 : decode code 1204 = .ok (.iadd, 1) := by decide +kernel
theorem dL_law_1205 : decode code 1205 = .ok (.iaload, 1) := by decide +kernel
theorem dL_law_1206 : decode code 1206 = .ok (.aload_n 0, 1) := by decide +kernel
theorem dL_law_1207 : decode code 1207 = .ok (.iload_n 3, 1) := by decide +kernel
theorem dL_law_1208 : decode code 1208 = .ok (.iconst 2, 1) := by decide +kernel
theorem dL_law_1209 : decode code 1209 = .ok (.iadd, 1) := by decide +kernel
theorem dL_law_1210 : decode code 1210 = .ok (.iaload, 1) := by decide +kernel
theorem dL_law_1211 : decode code 1211 = .ok (.invokevirtual 146, 3) := by decide +kernel
theorem dL_law_1214 : decode code 1214 = .ok (.aload_n 2, 1) := by decide +kernel
theorem dL_law_1215 : decode code 1215 = .ok (.aload_n 0, 1) := by decide +kernel
theorem dL_law_1216 : decode code 1216 = .ok (.iload_n 3, 1) := by decide +kernel
theorem dL_law_1217 : decode code 1217 = .ok (.iconst 1, 1) := by decide +kernel
theorem dL_law_1218 : decode code 1218 = .ok (.iadd, 1) := by decide +kernel
theorem dL_law_1219 : decode code 1219 = .ok (.iaload, 1) := by decide +kernel
theorem dL_law_1220 : decode code 1220 = .ok (.aload_n 0, 1) := by decide +kernel
theorem dL_law_1221 : decode code 1221 = .ok (.iload_n 3, 1) := by decide +kernel
theorem dL_law_1222 : decode code 1222 = .ok (.iconst 2, 1) := by decide +kernel
theorem dL_law_1223 : decode code 1223 = .ok (.iadd, 1) := by decide +kernel
theorem dL_law_1224 : decode code 1224 = .ok (.iaload, 1) := by decide +kernel
theorem dL_law_1225 : decode code 1225 = .ok (.invokevirtual 149, 3) := by decide +kernel
theorem dL_law_1228 : decode code 1228 = .ok (.if_icmp .eq 133, 3) := by decide +kernel
theorem dL_law_1231 : decode code 1231 = .ok (.iconst 0, 1) := by decide +kernel
theorem dL_law_1232 : decode code 1232 = .ok (.ireturn, 1) := by decide +kernel
theorem dL_law_1233 : decode code 1233 = .ok (.aload_n 1, 1) := by decide +kernel
theorem dL_law_1234 : decode code 1234 = .ok (.aload_n 0, 1) := by decide +kernel
theorem dL_law_1235 : decode code 1235 = .ok (.iload_n 3, 1) := by decide +kernel
theorem dL_law_1236 : decode code 1236 = .ok (.iconst 1, 1) := by decide +kernel
theorem dL_law_1237 : decode code 1237 = .ok (.iadd, 1) := by decide +kernel
theorem dL_law_1238 : decode code 1238 = .ok (.iaload, 1) := by decide +kernel
theorem dL_law_1239 : decode code 1239 = .ok (.aload_n 0, 1) := by decide +kernel
theorem dL_law_1240 : decode code 1240 = .ok (.iload_n 3, 1) := by decide +kernel
theorem dL_law_1241 : decode code 1241 = .ok (.iconst 2, 1) := by decide +kernel
theorem dL_law_1242 : decode code 1242 = .ok (.iadd, 1) := by decide +kernel
theorem dL_law_1243 : decode code 1243 = .ok (.iaload, 1) := by decide +kernel
theorem dL_law_1244 : decode code 1244 = .ok (.invokevirtual 150, 3) := by decide +kernel
theorem dL_law_1247 : decode code 1247 = .ok (.aload_n 2, 1) := by decide +kernel
theorem dL_law_1248 : decode code 1248 = .ok (.aload_n 0, 1) := by decide +kernel
theorem dL_law_1249 : decode code 1249 = .ok (.iload_n 3, 1) := by decide +kernel
theorem dL_law_1250 : decode code 1250 = .ok (.iconst 1, 1) := by decide +kernel
theorem dL_law_1251 : decode code 1251 = .ok (.iadd, 1) := by decide +kernel
theorem dL_law_1252 : decode code 1252 = .ok (.iaload, 1) := by decide +kernel
theorem dL_law_1253 : decode code 1253 = .ok (.aload_n 0, 1) := by decide +kernel
theorem dL_law_1254 : decode code 1254 = .ok (.iload_n 3, 1) := by decide +kernel
theorem dL_law_1255 : decode code 1255 = .ok (.iconst 2, 1) := by decide +kernel
theorem dL_law_1256 : decode code 1256 = .ok (.iadd, 1) := by decide +kernel
theorem dL_law_1257 : decode code 1257 = .ok (.iaload, 1) := by decide +kernel
theorem dL_law_1258 : decode code 1258 = .ok (.invokevirtual 153, 3) := by decide +kernel
theorem dL_law_1261 : decode code 1261 = .ok (.if_icmp .eq 100, 3) := by decide +kernel
theorem dL_law_1264 : decode code 1264 = .ok (.iconst 0, 1) := by decide +kernel
theorem dL_law_1265 : decode code 1265 = .ok (.ireturn, 1) := by decide +kernel
theorem dL_law_1266 : decode code 1266 = .ok (.aload_n 1, 1) := by decide +kernel
theorem dL_law_1267 : decode code 1267 = .ok (.aload_n 0, 1) := by decide +kernel
theorem dL_law_1268 : decode code 1268 = .ok (.iload_n 3, 1) := by decide +kernel
theorem dL_law_1269 : decode code 1269 = .ok (.iconst 1, 1) := by decide +kernel
theorem dL_law_1270 : decode code 1270 = .ok (.iadd, 1) := by decide +kernel
theorem dL_law_1271 : decode code 1271 = .ok (.iaload, 1) := by decide +kernel
theorem dL_law_1272 : decode code 1272 = .ok (.invokevirtual 154, 3) := by decide +kernel
theorem dL_law_1275 : decode code 1275 = .ok (.aload_n 2, 1) := by decide +kernel
theorem dL_law_1276 : decode code 1276 = .ok (.aload_n 0, 1) := by decide +kernel
theorem dL_law_1277 : decode code 1277 = .ok (.iload_n 3, 1) := by decide +kernel
theorem dL_law_1278 : decode code 1278 = .ok (.iconst 1, 1) := by decide +kernel
theorem dL_law_1279 : decode code 1279 = .ok (.iadd, 1) := by decide +kernel
theorem dL_law_1280 : decode code 1280 = .ok (.iaload, 1) := by decide +kernel
theorem dL_law_1281 : decode code 1281 = .ok (.invokevirtual 157, 3) := by decide +kernel
theorem dL_law_1284 : decode code 1284 = .ok (.if_icmp .eq 77, 3) := by decide +kernel
theorem dL_law_1287 : decode code 1287 = .ok (.iconst 0, 1) := by decide +kernel
theorem dL_law_1288 : decode code 1288 = .ok (.ireturn, 1) := by decide +kernel
theorem dL_law_1289 : decode code 1289 = .ok (.aload_n 1, 1) := by decide +kernel
theorem dL_law_1290 : decode code 1290 = .ok (.aload_n 0, 1) := by decide +kernel
theorem dL_law_1291 : decode code 1291 = .ok (.iload_n 3, 1) := by decide +kernel
theorem dL_law_1292 : decode code 1292 = .ok (.iconst 1, 1) := by decide +kernel
theorem dL_law_1293 : decode code 1293 = .ok (.iadd, 1) := by decide +kernel
theorem dL_law_1294 : decode code 1294 = .ok (.iaload, 1) := by decide +kernel
theorem dL_law_1295 : decode code 1295 = .ok (.invokevirtual 158, 3) := by decide +kernel
theorem dL_law_1298 : decode code 1298 = .ok (.aload_n 2, 1) := by decide +kernel
theorem dL_law_1299 : decode code 1299 = .ok (.aload_n 0, 1) := by decide +kernel
theorem dL_law_1300 : decode code 1300 = .ok (.iload_n 3, 1) := by decide +kernel
theorem dL_law_1301 : decode code 1301 = .ok (.iconst 1, 1) := by decide +kernel
theorem dL_law_1302 : decode code 1302 = .ok (.iadd, 1) := by decide +kernel
theorem dL_law_1303 : decode code 1303 = .ok (.iaload, 1) := by decide +kernel
theorem dL_law_1304 : decode code 1304 = .ok (.invokevirtual 161, 3) := by decide +kernel
theorem dL_law_1307 : decode code 1307 = .ok (.if_icmp .eq 54, 3) := by decide +kernel
theorem dL_law_1310 : decode code 1310 = .ok (.iconst 0, 1) := by decide +kernel
theorem dL_law_1311 : decode code 1311 = .ok (.ireturn, 1) := by decide +kernel
theorem dL_law_1312 : decode code 1312 = .ok (.aload_n 1, 1) := by decide +kernel
theorem dL_law_1313 : decode code 1313 = .ok (.invokevirtual 162, 3) := by decide +kernel
theorem dL_law_1316 : decode code 1316 = .ok (.aload_n 2, 1) := by decide +kernel
theorem dL_law_1317 : decode code 1317 = .ok (.invokevirtual 165, 3) := by decide +kernel
theorem dL_law_1320 : decode code 1320 = .ok (.if_icmp .eq 41, 3) := by decide +kernel
theorem dL_law_1323 : decode code 1323 = .ok (.iconst 0, 1) := by decide +kernel
theorem dL_law_1324 : decode code 1324 = .ok (.ireturn, 1) := by decide +kernel
theorem dL_law_1325 : decode code 1325 = .ok (.aload_n 1, 1) := by decide +kernel
theorem dL_law_1326 : decode code 1326 = .ok (.invokevirtual 166, 3) := by decide +kernel
theorem dL_law_1329 : decode code 1329 = .ok (.aload_n 2, 1) := by decide +kernel
theorem dL_law_1330 : decode code 1330 = .ok (.invokevirtual 169, 3) := by decide +kernel
theorem dL_law_1333 : decode code 1333 = .ok (.if_icmp .eq 28, 3) := by decide +kernel
theorem dL_law_1336 : decode code 1336 = .ok (.iconst 0, 1) := by decide +kernel
theorem dL_law_1337 : decode code 1337 = .ok (.ireturn, 1) := by decide +kernel
theorem dL_law_1338 : decode code 1338 = .ok (.aload_n 1, 1) := by decide +kernel
theorem dL_law_1339 : decode code 1339 = .ok (.aload_n 0, 1) := by decide +kernel
theorem dL_law_1340 : decode code 1340 = .ok (.iload_n 3, 1) := by decide +kernel
theorem dL_law_1341 : decode code 1341 = .ok (.iconst 1, 1) := by decide +kernel
theorem dL_law_1342 : decode code 1342 = .ok (.iadd, 1) := by decide +kernel
theorem dL_law_1343 : decode code 1343 = .ok (.iaload, 1) := by decide +kernel
theorem dL_law_1344 : decode code 1344 = .ok (.invokevirtual 170, 3) := by decide +kernel
theorem dL_law_1347 : decode code 1347 = .ok (.aload_n 2, 1) := by decide +kernel
theorem dL_law_1348 : decode code 1348 = .ok (.aload_n 0, 1) := by decide +kernel
theorem dL_law_1349 : decode code 1349 = .ok (.iload_n 3, 1) := by decide +kernel
theorem dL_law_1350 : decode code 1350 = .ok (.iconst 1, 1) := by decide +kernel
theorem dL_law_1351 : decode code 1351 = .ok (.iadd, 1) := by decide +kernel
theorem dL_law_1352 : decode code 1352 = .ok (.iaload, 1) := by decide +kernel
theorem dL_law_1353 : decode code 1353 = .ok (.invokevirtual 173, 3) := by decide +kernel
theorem dL_law_1356 : decode code 1356 = .ok (.if_icmp .eq 5, 3) := by decide +kernel
theorem dL_law_1359 : decode code 1359 = .ok (.iconst 0, 1) := by decide +kernel
theorem dL_law_1360 : decode code 1360 = .ok (.ireturn, 1) := by decide +kernel
theorem dL_law_1361 : decode code 1361 = .ok (.iinc 3 6, 3) := by decide +kernel
theorem dL_law_1364 : decode code 1364 = .ok (.goto (-1346), 3) := by decide +kernel
theorem dL_law_1367 : decode code 1367 = .ok (.iconst 1, 1) := by decide +kernel
theorem dL_law_1368 : decode code 1368 = .ok (.ireturn, 1) := by decide +kernel
theorem lk_RL_9 : Cond.methodLink R_law 9 yX6_init ∈ ctG ∧ Cond.instanceMethod yX6_init ∈ ctG := ⟨ctG_in 62 (by decide +kernel) (by decide +kernel), ctG_in 63 (by decide +kernel) (by decide +kernel)⟩
theorem lk_RL_12 : Cond.methodLink R_law 12 yX7_init ∈ ctG ∧ Cond.instanceMethod yX7_init ∈ ctG := ⟨ctG_in 796 (by decide +kernel) (by decide +kernel), ctG_in 797 (by decide +kernel) (by decide +kernel)⟩
theorem lk_RL_13 : ctLkV R_law 13 mX6_flame 3 := ⟨ck_X6_flame, ctG_in 302 (by decide +kernel) (by decide +kernel), ctG_in 303 (by decide +kernel) (by decide +kernel), ctG_in 304 (by decide +kernel) (by decide +kernel)⟩
theorem lk_RL_17 : ctLkV R_law 17 mX7_flame 3 := ⟨ck_X7_flame, ctG_in 907 (by decide +kernel) (by decide +kernel), ctG_in 908 (by decide +kernel) (by decide +kernel), ctG_in 909 (by decide +kernel) (by decide +kernel)⟩
theorem lk_RL_18 : ctLkV R_law 18 mX6_told 2 := ⟨ck_X6_told, ctG_in 329 (by decide +kernel) (by decide +kernel), ctG_in 330 (by decide +kernel) (by decide +kernel), ctG_in 331 (by decide +kernel) (by decide +kernel)⟩
theorem lk_RL_22 : ctLkV R_law 22 mX7_told 2 := ⟨ck_X7_told, ctG_in 929 (by decide +kernel) (by decide +kernel), ctG_in 930 (by decide +kernel) (by decide +kernel), ctG_in 931 (by decide +kernel) (by decide +kernel)⟩
theorem lk_RL_23 : ctLkV R_law 23 mX6_as 2 := ⟨ck_X6_as, ctG_in 390 (by decide +kernel) (by decide +kernel), ctG_in 391 (by decide +kernel) (by decide +kernel), ctG_in 392 (by decide +kernel) (by decide +kernel)⟩
theorem lk_RL_26 : ctLkV R_law 26 mX7_as 2 := ⟨ck_X7_as, ctG_in 986 (by decide +kernel) (by decide +kernel), ctG_in 987 (by decide +kernel) (by decide +kernel), ctG_in 988 (by decide +kernel) (by decide +kernel)⟩
theorem lk_RL_27 : ctLkV R_law 27 mX6_turns 2 := ⟨ck_X6_turns, ctG_in 399 (by decide +kernel) (by decide +kernel), ctG_in 400 (by decide +kernel) (by decide +kernel), ctG_in 401 (by decide +kernel) (by decide +kernel)⟩
theorem lk_RL_30 : ctLkV R_law 30 mX7_turns 2 := ⟨ck_X7_turns, ctG_in 994 (by decide +kernel) (by decide +kernel), ctG_in 995 (by decide +kernel) (by decide +kernel), ctG_in 996 (by decide +kernel) (by decide +kernel)⟩
theorem lk_RL_31 : ctLkV R_law 31 mX6_set 3 := ⟨ck_X6_set, ctG_in 403 (by decide +kernel) (by decide +kernel), ctG_in 404 (by decide +kernel) (by decide +kernel), ctG_in 405 (by decide +kernel) (by decide +kernel)⟩
theorem lk_RL_34 : ctLkV R_law 34 mX7_set 3 := ⟨ck_X7_set, ctG_in 1002 (by decide +kernel) (by decide +kernel), ctG_in 1003 (by decide +kernel) (by decide +kernel), ctG_in 1004 (by decide +kernel) (by decide +kernel)⟩
theorem lk_RL_35 : ctLkV R_law 35 mX6_move 2 := ⟨ck_X6_move, ctG_in 410 (by decide +kernel) (by decide +kernel), ctG_in 411 (by decide +kernel) (by decide +kernel), ctG_in 412 (by decide +kernel) (by decide +kernel)⟩
theorem lk_RL_38 : ctLkV R_law 38 mX7_move 2 := ⟨ck_X7_move, ctG_in 1008 (by decide +kernel) (by decide +kernel), ctG_in 1009 (by decide +kernel) (by decide +kernel), ctG_in 1010 (by decide +kernel) (by decide +kernel)⟩
theorem lk_RL_39 : ctLkV R_law 39 mX6_glass 3 := ⟨ck_X6_glass, ctG_in 415 (by decide +kernel) (by decide +kernel), ctG_in 416 (by decide +kernel) (by decide +kernel), ctG_in 417 (by decide +kernel) (by decide +kernel)⟩
theorem lk_RL_42 : ctLkV R_law 42 mX7_glass 3 := ⟨ck_X7_glass, ctG_in 1012 (by decide +kernel) (by decide +kernel), ctG_in 1013 (by decide +kernel) (by decide +kernel), ctG_in 1014 (by decide +kernel) (by decide +kernel)⟩
theorem lk_RL_43 : ctLkV R_law 43 mX6_reach 2 := ⟨ck_X6_reach, ctG_in 428 (by decide +kernel) (by decide +kernel), ctG_in 429 (by decide +kernel) (by decide +kernel), ctG_in 430 (by decide +kernel) (by decide +kernel)⟩
theorem lk_RL_46 : ctLkV R_law 46 mX7_reach 2 := ⟨ck_X7_reach, ctG_in 1016 (by decide +kernel) (by decide +kernel), ctG_in 1017 (by decide +kernel) (by decide +kernel), ctG_in 1018 (by decide +kernel) (by decide +kernel)⟩
theorem lk_RL_47 : ctLkV R_law 47 mX6_push 2 := ⟨ck_X6_push, ctG_in 432 (by decide +kernel) (by decide +kernel), ctG_in 433 (by decide +kernel) (by decide +kernel), ctG_in 434 (by decide +kernel) (by decide +kernel)⟩
theorem lk_RL_50 : ctLkV R_law 50 mX7_push 2 := ⟨ck_X7_push, ctG_in 1021 (by decide +kernel) (by decide +kernel), ctG_in 1022 (by decide +kernel) (by decide +kernel), ctG_in 1023 (by decide +kernel) (by decide +kernel)⟩
theorem lk_RL_51 : ctLkV R_law 51 mX6_deal 1 := ⟨ck_X6_deal, ctG_in 437 (by decide +kernel) (by decide +kernel), ctG_in 438 (by decide +kernel) (by decide +kernel), ctG_in 439 (by decide +kernel) (by decide +kernel)⟩
theorem lk_RL_55 : ctLkV R_law 55 mX7_deal 1 := ⟨ck_X7_deal, ctG_in 1025 (by decide +kernel) (by decide +kernel), ctG_in 1026 (by decide +kernel) (by decide +kernel), ctG_in 1027 (by decide +kernel) (by decide +kernel)⟩
theorem lk_RL_56 : ctLkV R_law 56 mX6_seed 1 := ⟨ck_X6_seed, ctG_in 454 (by decide +kernel) (by decide +kernel), ctG_in 455 (by decide +kernel) (by decide +kernel), ctG_in 456 (by decide +kernel) (by decide +kernel)⟩
theorem lk_RL_59 : ctLkV R_law 59 mX7_seed 1 := ⟨ck_X7_seed, ctG_in 1035 (by decide +kernel) (by decide +kernel), ctG_in 1036 (by decide +kernel) (by decide +kernel), ctG_in 1037 (by decide +kernel) (by decide +kernel)⟩
theorem lk_RL_60 : ctLkV R_law 60 mX6_run 1 := ⟨ck_X6_run, ctG_in 458 (by decide +kernel) (by decide +kernel), ctG_in 459 (by decide +kernel) (by decide +kernel), ctG_in 460 (by decide +kernel) (by decide +kernel)⟩
theorem lk_RL_63 : ctLkV R_law 63 mX7_run 1 := ⟨ck_X7_run, ctG_in 1039 (by decide +kernel) (by decide +kernel), ctG_in 1040 (by decide +kernel) (by decide +kernel), ctG_in 1041 (by decide +kernel) (by decide +kernel)⟩
theorem lk_RL_64 : ctLkV R_law 64 mX6_spread 0 := ⟨ck_X6_spread, ctG_in 488 (by decide +kernel) (by decide +kernel), ctG_in 489 (by decide +kernel) (by decide +kernel), ctG_in 490 (by decide +kernel) (by decide +kernel)⟩
theorem lk_RL_68 : ctLkV R_law 68 mX7_spread 0 := ⟨ck_X7_spread, ctG_in 1058 (by decide +kernel) (by decide +kernel), ctG_in 1059 (by decide +kernel) (by decide +kernel), ctG_in 1060 (by decide +kernel) (by decide +kernel)⟩
theorem lk_RL_69 : ctLkV R_law 69 mX6_groups 1 := ⟨ck_X6_groups, ctG_in 502 (by decide +kernel) (by decide +kernel), ctG_in 503 (by decide +kernel) (by decide +kernel), ctG_in 504 (by decide +kernel) (by decide +kernel)⟩
theorem lk_RL_72 : ctLkV R_law 72 mX7_groups 1 := ⟨ck_X7_groups, ctG_in 1074 (by decide +kernel) (by decide +kernel), ctG_in 1075 (by decide +kernel) (by decide +kernel), ctG_in 1076 (by decide +kernel) (by decide +kernel)⟩
theorem lk_RL_73 : ctLkV R_law 73 mX6_soon 1 := ⟨ck_X6_soon, ctG_in 518 (by decide +kernel) (by decide +kernel), ctG_in 519 (by decide +kernel) (by decide +kernel), ctG_in 520 (by decide +kernel) (by decide +kernel)⟩
theorem lk_RL_76 : ctLkV R_law 76 mX7_soon 1 := ⟨ck_X7_soon, ctG_in 1078 (by decide +kernel) (by decide +kernel), ctG_in 1079 (by decide +kernel) (by decide +kernel), ctG_in 1080 (by decide +kernel) (by decide +kernel)⟩
theorem lk_RL_77 : ctLkV R_law 77 mX6_period 0 := ⟨ck_X6_period, ctG_in 536 (by decide +kernel) (by decide +kernel), ctG_in 537 (by decide +kernel) (by decide +kernel), ctG_in 538 (by decide +kernel) (by decide +kernel)⟩
theorem lk_RL_80 : ctLkV R_law 80 mX7_period 0 := ⟨ck_X7_period, ctG_in 1093 (by decide +kernel) (by decide +kernel), ctG_in 1094 (by decide +kernel) (by decide +kernel), ctG_in 1095 (by decide +kernel) (by decide +kernel)⟩
theorem lk_RL_81 : ctLkV R_law 81 mX6_film 2 := ⟨ck_X6_film, ctG_in 544 (by decide +kernel) (by decide +kernel), ctG_in 545 (by decide +kernel) (by decide +kernel), ctG_in 546 (by decide +kernel) (by decide +kernel)⟩
theorem lk_RL_84 : ctLkV R_law 84 mX7_film 2 := ⟨ck_X7_film, ctG_in 1101 (by decide +kernel) (by decide +kernel), ctG_in 1102 (by decide +kernel) (by decide +kernel), ctG_in 1103 (by decide +kernel) (by decide +kernel)⟩
theorem lk_RL_85 : ctLkV R_law 85 mX6_basin 1 := ⟨ck_X6_basin, ctG_in 549 (by decide +kernel) (by decide +kernel), ctG_in 550 (by decide +kernel) (by decide +kernel), ctG_in 551 (by decide +kernel) (by decide +kernel)⟩
theorem lk_RL_88 : ctLkV R_law 88 mX7_basin 1 := ⟨ck_X7_basin, ctG_in 1109 (by decide +kernel) (by decide +kernel), ctG_in 1110 (by decide +kernel) (by decide +kernel), ctG_in 1111 (by decide +kernel) (by decide +kernel)⟩
theorem lk_RL_89 : ctLkV R_law 89 mX6_quiet 2 := ⟨ck_X6_quiet, ctG_in 558 (by decide +kernel) (by decide +kernel), ctG_in 559 (by decide +kernel) (by decide +kernel), ctG_in 560 (by decide +kernel) (by decide +kernel)⟩
theorem lk_RL_92 : ctLkV R_law 92 mX7_quiet 2 := ⟨ck_X7_quiet, ctG_in 1118 (by decide +kernel) (by decide +kernel), ctG_in 1119 (by decide +kernel) (by decide +kernel), ctG_in 1120 (by decide +kernel) (by decide +kernel)⟩
theorem lk_RL_93 : ctLkV R_law 93 mX6_learn 2 := ⟨ck_X6_learn, ctG_in 566 (by decide +kernel) (by decide +kernel), ctG_in 567 (by decide +kernel) (by decide +kernel), ctG_in 568 (by decide +kernel) (by decide +kernel)⟩
theorem lk_RL_96 : ctLkV R_law 96 mX7_learn 2 := ⟨ck_X7_learn, ctG_in 1229 (by decide +kernel) (by decide +kernel), ctG_in 1230 (by decide +kernel) (by decide +kernel), ctG_in 1231 (by decide +kernel) (by decide +kernel)⟩
theorem lk_RL_97 : ctLkV R_law 97 mX6_feed 3 := ⟨ck_X6_feed, ctG_in 582 (by decide +kernel) (by decide +kernel), ctG_in 583 (by decide +kernel) (by decide +kernel), ctG_in 584 (by decide +kernel) (by decide +kernel)⟩
theorem lk_RL_100 : ctLkV R_law 100 mX7_feed 3 := ⟨ck_X7_feed, ctG_in 1123 (by decide +kernel) (by decide +kernel), ctG_in 1124 (by decide +kernel) (by decide +kernel), ctG_in 1125 (by decide +kernel) (by decide +kernel)⟩
theorem lk_RL_101 : ctLkV R_law 101 mX6_trim 1 := ⟨ck_X6_trim, ctG_in 590 (by decide +kernel) (by decide +kernel), ctG_in 591 (by decide +kernel) (by decide +kernel), ctG_in 592 (by decide +kernel) (by decide +kernel)⟩
theorem lk_RL_104 : ctLkV R_law 104 mX7_trim 1 := ⟨ck_X7_trim, ctG_in 1127 (by decide +kernel) (by decide +kernel), ctG_in 1128 (by decide +kernel) (by decide +kernel), ctG_in 1129 (by decide +kernel) (by decide +kernel)⟩
theorem lk_RL_105 : ctLkV R_law 105 mX6_text 0 := ⟨ck_X6_text, ctG_in 594 (by decide +kernel) (by decide +kernel), ctG_in 595 (by decide +kernel) (by decide +kernel), ctG_in 596 (by decide +kernel) (by decide +kernel)⟩
theorem lk_RL_108 : ctLkV R_law 108 mX7_text 0 := ⟨ck_X7_text, ctG_in 1131 (by decide +kernel) (by decide +kernel), ctG_in 1132 (by decide +kernel) (by decide +kernel), ctG_in 1133 (by decide +kernel) (by decide +kernel)⟩
theorem lk_RL_109 : ctLkV R_law 109 mX6_textTold 2 := ⟨ck_X6_textTold, ctG_in 701 (by decide +kernel) (by decide +kernel), ctG_in 702 (by decide +kernel) (by decide +kernel), ctG_in 703 (by decide +kernel) (by decide +kernel)⟩
theorem lk_RL_112 : ctLkV R_law 112 mX7_textTold 2 := ⟨ck_X7_textTold, ctG_in 1198 (by decide +kernel) (by decide +kernel), ctG_in 1199 (by decide +kernel) (by decide +kernel), ctG_in 1200 (by decide +kernel) (by decide +kernel)⟩
theorem lk_RL_113 : ctLkV R_law 113 mX6_why 1 := ⟨ck_X6_why, ctG_in 705 (by decide +kernel) (by decide +kernel), ctG_in 706 (by decide +kernel) (by decide +kernel), ctG_in 707 (by decide +kernel) (by decide +kernel)⟩
theorem lk_RL_116 : ctLkV R_law 116 mX7_why 1 := ⟨ck_X7_why, ctG_in 1206 (by decide +kernel) (by decide +kernel), ctG_in 1207 (by decide +kernel) (by decide +kernel), ctG_in 1208 (by decide +kernel) (by decide +kernel)⟩
theorem lk_RL_117 : ctLkV R_law 117 mX6_sheet 3 := ⟨ck_X6_sheet, ctG_in 709 (by decide +kernel) (by decide +kernel), ctG_in 710 (by decide +kernel) (by decide +kernel), ctG_in 711 (by decide +kernel) (by decide +kernel)⟩
theorem lk_RL_120 : ctLkV R_law 120 mX7_sheet 3 := ⟨ck_X7_sheet, ctG_in 1211 (by decide +kernel) (by decide +kernel), ctG_in 1212 (by decide +kernel) (by decide +kernel), ctG_in 1213 (by decide +kernel) (by decide +kernel)⟩
theorem lk_RL_121 : ctLkV R_law 121 mX6_mark 3 := ⟨ck_X6_mark, ctG_in 718 (by decide +kernel) (by decide +kernel), ctG_in 719 (by decide +kernel) (by decide +kernel), ctG_in 720 (by decide +kernel) (by decide +kernel)⟩
theorem lk_RL_124 : ctLkV R_law 124 mX7_mark 3 := ⟨ck_X7_mark, ctG_in 1221 (by decide +kernel) (by decide +kernel), ctG_in 1222 (by decide +kernel) (by decide +kernel), ctG_in 1223 (by decide +kernel) (by decide +kernel)⟩
theorem lk_RL_125 : ctLkV R_law 125 mX6_pour 1 := ⟨ck_X6_pour, ctG_in 730 (by decide +kernel) (by decide +kernel), ctG_in 731 (by decide +kernel) (by decide +kernel), ctG_in 732 (by decide +kernel) (by decide +kernel)⟩
theorem lk_RL_128 : ctLkV R_law 128 mX7_pour 1 := ⟨ck_X7_pour, ctG_in 1233 (by decide +kernel) (by decide +kernel), ctG_in 1234 (by decide +kernel) (by decide +kernel), ctG_in 1235 (by decide +kernel) (by decide +kernel)⟩
theorem lk_RL_129 : ctLkV R_law 129 mX6_reads 1 := ⟨ck_X6_reads, ctG_in 734 (by decide +kernel) (by decide +kernel), ctG_in 735 (by decide +kernel) (by decide +kernel), ctG_in 736 (by decide +kernel) (by decide +kernel)⟩
theorem lk_RL_132 : ctLkV R_law 132 mX7_reads 1 := ⟨ck_X7_reads, ctG_in 1237 (by decide +kernel) (by decide +kernel), ctG_in 1238 (by decide +kernel) (by decide +kernel), ctG_in 1239 (by decide +kernel) (by decide +kernel)⟩
theorem lk_RL_133 : ctLkV R_law 133 mX6_copy 5 := ⟨ck_X6_copy, ctG_in 738 (by decide +kernel) (by decide +kernel), ctG_in 739 (by decide +kernel) (by decide +kernel), ctG_in 740 (by decide +kernel) (by decide +kernel)⟩
theorem lk_RL_137 : ctLkV R_law 137 mX7_copy 5 := ⟨ck_X7_copy, ctG_in 1241 (by decide +kernel) (by decide +kernel), ctG_in 1242 (by decide +kernel) (by decide +kernel), ctG_in 1243 (by decide +kernel) (by decide +kernel)⟩
theorem lk_RL_138 : ctLkV R_law 138 mX6_lay 3 := ⟨ck_X6_lay, ctG_in 749 (by decide +kernel) (by decide +kernel), ctG_in 750 (by decide +kernel) (by decide +kernel), ctG_in 751 (by decide +kernel) (by decide +kernel)⟩
theorem lk_RL_141 : ctLkV R_law 141 mX7_lay 3 := ⟨ck_X7_lay, ctG_in 1245 (by decide +kernel) (by decide +kernel), ctG_in 1246 (by decide +kernel) (by decide +kernel), ctG_in 1247 (by decide +kernel) (by decide +kernel)⟩
theorem lk_RL_142 : ctLkV R_law 142 mX6_ask 2 := ⟨ck_X6_ask, ctG_in 761 (by decide +kernel) (by decide +kernel), ctG_in 762 (by decide +kernel) (by decide +kernel), ctG_in 763 (by decide +kernel) (by decide +kernel)⟩
theorem lk_RL_145 : ctLkV R_law 145 mX7_ask 2 := ⟨ck_X7_ask, ctG_in 1252 (by decide +kernel) (by decide +kernel), ctG_in 1253 (by decide +kernel) (by decide +kernel), ctG_in 1254 (by decide +kernel) (by decide +kernel)⟩
theorem lk_RL_146 : ctLkV R_law 146 mX6_item 2 := ⟨ck_X6_item, ctG_in 765 (by decide +kernel) (by decide +kernel), ctG_in 766 (by decide +kernel) (by decide +kernel), ctG_in 767 (by decide +kernel) (by decide +kernel)⟩
theorem lk_RL_149 : ctLkV R_law 149 mX7_item 2 := ⟨ck_X7_item, ctG_in 1256 (by decide +kernel) (by decide +kernel), ctG_in 1257 (by decide +kernel) (by decide +kernel), ctG_in 1258 (by decide +kernel) (by decide +kernel)⟩
theorem lk_RL_150 : ctLkV R_law 150 mX6_rest 2 := ⟨ck_X6_rest, ctG_in 769 (by decide +kernel) (by decide +kernel), ctG_in 770 (by decide +kernel) (by decide +kernel), ctG_in 771 (by decide +kernel) (by decide +kernel)⟩
theorem lk_RL_153 : ctLkV R_law 153 mX7_rest 2 := ⟨ck_X7_rest, ctG_in 1260 (by decide +kernel) (by decide +kernel), ctG_in 1261 (by decide +kernel) (by decide +kernel), ctG_in 1262 (by decide +kernel) (by decide +kernel)⟩
theorem lk_RL_154 : ctLkV R_law 154 mX6_tell 1 := ⟨ck_X6_tell, ctG_in 773 (by decide +kernel) (by decide +kernel), ctG_in 774 (by decide +kernel) (by decide +kernel), ctG_in 775 (by decide +kernel) (by decide +kernel)⟩
theorem lk_RL_157 : ctLkV R_law 157 mX7_tell 1 := ⟨ck_X7_tell, ctG_in 1264 (by decide +kernel) (by decide +kernel), ctG_in 1265 (by decide +kernel) (by decide +kernel), ctG_in 1266 (by decide +kernel) (by decide +kernel)⟩
theorem lk_RL_158 : ctLkV R_law 158 mX6_check 1 := ⟨ck_X6_check, ctG_in 777 (by decide +kernel) (by decide +kernel), ctG_in 778 (by decide +kernel) (by decide +kernel), ctG_in 779 (by decide +kernel) (by decide +kernel)⟩
theorem lk_RL_161 : ctLkV R_law 161 mX7_check 1 := ⟨ck_X7_check, ctG_in 1268 (by decide +kernel) (by decide +kernel), ctG_in 1269 (by decide +kernel) (by decide +kernel), ctG_in 1270 (by decide +kernel) (by decide +kernel)⟩
theorem lk_RL_162 : ctLkV R_law 162 mX6_keep 0 := ⟨ck_X6_keep, ctG_in 781 (by decide +kernel) (by decide +kernel), ctG_in 782 (by decide +kernel) (by decide +kernel), ctG_in 783 (by decide +kernel) (by decide +kernel)⟩
theorem lk_RL_165 : ctLkV R_law 165 mX7_keep 0 := ⟨ck_X7_keep, ctG_in 1278 (by decide +kernel) (by decide +kernel), ctG_in 1279 (by decide +kernel) (by decide +kernel), ctG_in 1280 (by decide +kernel) (by decide +kernel)⟩
theorem lk_RL_166 : ctLkV R_law 166 mX6_back 0 := ⟨ck_X6_back, ctG_in 785 (by decide +kernel) (by decide +kernel), ctG_in 786 (by decide +kernel) (by decide +kernel), ctG_in 787 (by decide +kernel) (by decide +kernel)⟩
theorem lk_RL_169 : ctLkV R_law 169 mX7_back 0 := ⟨ck_X7_back, ctG_in 1282 (by decide +kernel) (by decide +kernel), ctG_in 1283 (by decide +kernel) (by decide +kernel), ctG_in 1284 (by decide +kernel) (by decide +kernel)⟩
theorem lk_RL_170 : ctLkV R_law 170 mX6_count 1 := ⟨ck_X6_count, ctG_in 789 (by decide +kernel) (by decide +kernel), ctG_in 790 (by decide +kernel) (by decide +kernel), ctG_in 791 (by decide +kernel) (by decide +kernel)⟩
theorem lk_RL_173 : ctLkV R_law 173 mX7_count 1 := ⟨ck_X7_count, ctG_in 1286 (by decide +kernel) (by decide +kernel), ctG_in 1287 (by decide +kernel) (by decide +kernel), ctG_in 1288 (by decide +kernel) (by decide +kernel)⟩
theorem nl_RL_7 : Cond.classLink R_law 7 RX6 ∈ ctG := ctG_in 60 (by decide +kernel) (by decide +kernel)
theorem nl_RL_10 : Cond.classLink R_law 10 RX7 ∈ ctG := ctG_in 794 (by decide +kernel) (by decide +kernel)
def opS0 (Sim : ctM → ctM → Prop) (fc fm : Nat → ctM → Option (Int32 × ctM)) : Prop := ∀ Mc Mm : ctM, Sim Mc Mm → ∃ (v : Int32) (Mc2 Mm2 : ctM), fc 0  Mc = some (v, Mc2) ∧ fm 0  Mm = some (v, Mm2) ∧ Sim Mc2 Mm2
def opS1 (Sim : ctM → ctM → Prop) (fc fm : Nat → Int32 → ctM → Option (Int32 × ctM)) : Prop := ∀ Mc Mm : ctM, Sim Mc Mm → ∀ (a : Int32), ∃ (v : Int32) (Mc2 Mm2 : ctM), fc 0 a Mc = some (v, Mc2) ∧ fm 0 a Mm = some (v, Mm2) ∧ Sim Mc2 Mm2
def opS2 (Sim : ctM → ctM → Prop) (fc fm : Nat → Int32 → Int32 → ctM → Option (Int32 × ctM)) : Prop := ∀ Mc Mm : ctM, Sim Mc Mm → ∀ (a b : Int32), ∃ (v : Int32) (Mc2 Mm2 : ctM), fc 0 a b Mc = some (v, Mc2) ∧ fm 0 a b Mm = some (v, Mm2) ∧ Sim Mc2 Mm2
def opS3 (Sim : ctM → ctM → Prop) (fc fm : Nat → Int32 → Int32 → Int32 → ctM → Option (Int32 × ctM)) : Prop := ∀ Mc Mm : ctM, Sim Mc Mm → ∀ (a b c : Int32), ∃ (v : Int32) (Mc2 Mm2 : ctM), fc 0 a b c Mc = some (v, Mc2) ∧ fm 0 a b c Mm = some (v, Mm2) ∧ Sim Mc2 Mm2
def opS5 (Sim : ctM → ctM → Prop) (fc fm : Nat → Int32 → Int32 → Int32 → Int32 → Int32 → ctM → Option (Int32 × ctM)) : Prop := ∀ Mc Mm : ctM, Sim Mc Mm → ∀ (a b c d e : Int32), ∃ (v : Int32) (Mc2 Mm2 : ctM), fc 0 a b c d e Mc = some (v, Mc2) ∧ fm 0 a b c d e Mm = some (v, Mm2) ∧ Sim Mc2 Mm2
def ctOps (Sim : ctM → ctM → Prop) : Prop := opS3 Sim fX6_flame fX7_flame ∧ opS2 Sim fX6_told fX7_told ∧ opS2 Sim fX6_as fX7_as ∧ opS2 Sim fX6_turns fX7_turns ∧ opS3 Sim fX6_set fX7_set ∧ opS2 Sim fX6_move fX7_move ∧ opS3 Sim fX6_glass fX7_glass ∧ opS2 Sim fX6_reach fX7_reach ∧ opS2 Sim fX6_push fX7_push ∧ opS1 Sim fX6_deal fX7_deal ∧ opS1 Sim fX6_seed fX7_seed ∧ opS1 Sim fX6_run fX7_run ∧ opS0 Sim fX6_spread fX7_spread ∧ opS1 Sim fX6_groups fX7_groups ∧ opS1 Sim fX6_soon fX7_soon ∧ opS0 Sim fX6_period fX7_period ∧ opS2 Sim fX6_film fX7_film ∧ opS1 Sim fX6_basin fX7_basin ∧ opS2 Sim fX6_quiet fX7_quiet ∧ opS2 Sim fX6_learn fX7_learn ∧ opS3 Sim fX6_feed fX7_feed ∧ opS1 Sim fX6_trim fX7_trim ∧ opS0 Sim fX6_text fX7_text ∧ opS2 Sim fX6_textTold fX7_textTold ∧ opS1 Sim fX6_why fX7_why ∧ opS3 Sim fX6_sheet fX7_sheet ∧ opS3 Sim fX6_mark fX7_mark ∧ opS1 Sim fX6_pour fX7_pour ∧ opS1 Sim fX6_reads fX7_reads ∧ opS5 Sim fX6_copy fX7_copy ∧ opS3 Sim fX6_lay fX7_lay ∧ opS2 Sim fX6_ask fX7_ask ∧ opS2 Sim fX6_item fX7_item ∧ opS2 Sim fX6_rest fX7_rest ∧ opS1 Sim fX6_tell fX7_tell ∧ opS1 Sim fX6_check fX7_check ∧ opS0 Sim fX6_keep fX7_keep ∧ opS0 Sim fX6_back fX7_back ∧ opS1 Sim fX6_count fX7_count
abbrev lB1 (l : Launch) (D : va_G) (cy : Nat → ClassId) (lo : Nat) (aK aV : Nat → Nat) (fr : Bool) : ctB := (l, D, cy, lo, lo + 149, kdC, lnC, aK, aV, fr)
abbrev lB2 (l : Launch) (D : va_G) (cy : Nat → ClassId) (lo : Nat) (aK aV : Nat → Nat) (fr : Bool) : ctB := (l, D, cy, lo + 149, lo + 170, kdM, lnM, aK, aV, fr)
theorem kdC_lt : ∀ a, kdC a < 15 → a < 149 := by
  intro a h
  rcases Nat.lt_or_ge a 149 with q | q
  · exact q
  · have : kdC a = 15 := by
      unfold kdC
      rw [List.getD_eq_getElem?_getD, List.getElem?_eq_none (by exact q)]
      rfl
    omega
theorem kdM_lt : ∀ a, kdM a < 15 → a < 21 := by
  intro a h
  rcases Nat.lt_or_ge a 21 with q | q
  · exact q
  · have : kdM a = 15 := by
      unfold kdM
      rw [List.getD_eq_getElem?_getD, List.getElem?_eq_none (by exact q)]
      rfl
    omega
section
variable {p : Program} {l : Launch} {e : Env} {s : State} {m : MethodId} {below : List Frame} {meth : Method} {c : Code} {b L : Nat} {xs : Nat → Int32} {H : Heap} {locs : List Loc} {ca sl : Nat} {Q : State → Prop} {ls : Array Slot}
theorem lw_ctG (C0 : lw_At p s m meth c b L xs) : ∀ w ∈ ctG, w.before #[Value.ref b] s = true := fun w hw => C0.2.2.2.2.2.1 w (List.mem_filter.mp hw).1
theorem lw_call {B : ctB} {pc idx k lv n ci : Nat} {μ' : Mi} {As st rest : List Value} {M : ctM} {r : Int32 × ctM} (C0 : lw_At p s m meth c b L xs) (hK : ctK B s) (hlo : s.heap.size ≤ bLo B) (hd : decode code pc = .ok (.invokevirtual idx, 3)) (hl : ctLkV R_law idx μ' k) (hk : As.length = k) (hR : lv ≤ 2000) (hC : ctC B μ' (lv, 0, 0) (.ref 0 :: As) n M (poI r n)) (h0 : bKd B 0 = ci) (hci : ci < 8) (hcn : ctR ci = μ'.1.cls) (hn : 0 < n) (hrest : (rest.map fun v => v.category).sum ≤ 8) (hca : ca ≤ 600000) (hsl : sl ≤ 7302250) (hls : ls.size = 4) (w : ctH B n M H) (S : va_S (fun q : Nat => s.heap.size ≤ q) s.heap H locs) (hst : st = (As.map (ctv B)).reverse ++ .ref (bLo B) :: rest)
    (kk : ∀ (H1 : Heap) (locs1 : List Loc), ctH B n r.2 H1 → H.size ≤ H1.size → (∀ q : Nat, q < H.size → ¬ ctA B q → H1[q]? = H[q]?) → va_S (fun q : Nat => s.heap.size ≤ q) s.heap H1 locs1 → W p (bL B) e room_1 s m #[Value.ref b] below meth c H1 locs1 ca sl Q (F0 m (pc + 3) ls (.int r.1 :: rest))) : W p (bL B) e room_1 s m #[Value.ref b] below meth c H locs ca sl Q (F0 m pc ls st) := by
  subst hst
  have hts := lw_ctG C0
  obtain ⟨hx, hb, hr, hml, hown, -⟩ := id C0
  obtain ⟨⟨w1, w2, w3, w4⟩, w5, w6, w7⟩ := hl
  have he := ctW_at (B := B) (M := M) hn
  rw [ctE_obj h0 hci] at he
  have hrecv := va_recv hK.1 w.1 (ct_at hci) he
  simp only [hcn] at hrecv
  have hA : ∀ q : Nat, ctA B q → s.heap.size ≤ q := fun q hq => Nat.le_trans hlo hq.1
  have S2 : va_S (ctA B) s.heap H [] := ⟨S.1, fun q h1 h2 => S.2.1 q h1 (by omega), fun q hq => by cases hq⟩
  have hrun := va_runV (p := p) (l := bL B) (e := e) (R := room_1) (below := below) (meth := meth) (locs := locs) (cells := ca) (slots := sl) (g := F0 m pc ls ((As.map (ctv B)).reverse ++ .ref (bLo B) :: rest)) (b := bLo B + 0) (C := μ'.1.cls) (As := As.map (ctv B)) (rest := rest) (Ts := ctG) (ws := Cond.code μ'.1 μ'.2.1 μ'.2.2.1 μ'.2.2.2 :: ctG) (nL := 4) (cc := code) ⟨hx, hb, hml, hown, hts⟩ hC
    (cwV (ws' := ctG) k hts (fun x hx2 => by
      unfold wsV at hx2
      rcases List.mem_append.mp hx2 with hx3 | hx3
      · have hg : x ∈ ctG := by
          simp only [List.mem_cons, List.mem_nil_iff, or_false] at hx3
          rcases hx3 with rfl | rfl | rfl | rfl
          · exact w5
          · exact w6
          · exact w7
          · exact w1
        exact ⟨hg, good_of_word (ctG_good x hg)⟩
      · exact ct_goodIn w2 x hx3) rfl rfl rfl ⟨rfl, w3⟩ ⟨by show lv + 1 ≤ 2048; omega, by show 8 + (μ'.2.2.1 + 11) + 40 * lv ≤ 84000; omega⟩)
    ⟨ct_blind, hrecv, fun U hU hW => ⟨by
      show (Value.ref (bLo B + 0) :: As.map (ctv B)).toArray = ((Value.ref 0 :: As).map (ctv B)).toArray
      simp [ctv, bAd], by rw [hU]; exact w, ctK_moved hK S2 hU hW⟩⟩ rfl (by rw [List.length_map, hk]) hls rfl (lv_room hrest) hd ⟨hca, hsl⟩
  intro T hT X
  obtain ⟨v, st₀, t, T', Lc, g0, X', hL, e1, e2, ⟨⟨v0, n', M', hv, hp, hH⟩, hz, hk2⟩, sts⟩ := hrun T hT X
  obtain ⟨rfl, rfl, rfl⟩ := hp
  cases hv
  rw [g0] at hz hk2
  obtain ⟨t2, a1, b1⟩ := kk T'.heap (locs ++ Lc) (by rw [e1]; exact hH) (by rw [e1]; exact hz) (fun q h1 h2 => by rw [e1]; exact hk2 q h1 h2)
    ⟨Nat.le_trans S.1 (by rw [e1]; exact hz), fun q h1 h2 => by rw [e1, hk2 q (Nat.lt_of_lt_of_le h1 S.1) (fun z => h2 (hA q z))]; exact S.2.1 q h1 h2, fun q hq => by
      rcases List.mem_append.mp hq with h | h
      · exact S.2.2 q h
      · exact hA _ (hL q h)⟩ T' rfl X'
  exact ⟨t2, sts t2 a1, b1⟩
theorem lw_arg {pc i t : Nat} {z : Int} {rest : List Value} {q0 q1 : Nat} (C0 : lw_At p s m meth c b L xs) (hz : Int32.ofInt z = nI t) (h0 : decode code pc = .ok (.aload_n 0, 1)) (h1 : decode code (pc + 1) = .ok (.iload_n 3, 1)) (h2 : decode code (pc + 2) = .ok (.iconst z, 1)) (h3 : decode code (pc + 3) = .ok (.iadd, 1)) (h4 : decode code (pc + 4) = .ok (.iaload, 1)) (hl : lv_has ls 4 [(0, .ref b), (1, .ref q0), (2, .ref q1), (3, .int (nI i))]) (hi : i + t < L) (hL : L ≤ 384) (S : va_S (fun q : Nat => s.heap.size ≤ q) s.heap H locs)
    (K : W p l e room_1 s m #[Value.ref b] below meth c H locs ca sl Q (F0 m (pc + 5) ls (.int (xs (i + t)) :: rest))) : W p l e room_1 s m #[Value.ref b] below meth c H locs ca sl Q (F0 m pc ls rest) := by
  obtain ⟨hx, hb, hr, hml, hown, hts, hX, hbl, hlocks, hgv⟩ := C0
  have hbA : ¬ (fun q : Nat => s.heap.size ≤ q) b := Nat.not_le.mpr hbl
  refine lv_aload_n hx hb h0 rfl (lv_at hl 0 rfl) ?_
  refine lv_iload_n hx hb h1 rfl (lv_at hl 3 rfl) ?_
  refine lv_iconst (v := nI t) hx hb h2 hz ?_
  refine lv_iadd hx hb h3 ?_
  rw [nI_add]
  refine va_sld hx hb hX hbl hbA S (vp_in_nI hi (by omega)) h4 ?_
  rw [nI_clamp (by omega)]
  exact K
end

set_option maxHeartbeats 4000000 in
set_option maxRecDepth 20000 in
theorem law_case_0 {Sim : ctM → ctM → Prop} {p : Program} {l : Launch} {e : Env} {s : State} {m : MethodId} {below : List Frame} {meth : Method} {c : Code} {b L : Nat} {xs : Nat → Int32} {H : Heap} {locs : List Loc} {ls : Array Slot} {D : va_G} {cy : Nat → ClassId} {aK aV : Nat → Nat} (hL : L ≤ 384) (C0 : lw_At p s m meth c b L xs) (K1 : ctK (lB1 l D cy s.heap.size aK aV false) s) (K2 : ctK (lB2 l D cy s.heap.size aK aV false) s) (hop : opS3 Sim fX6_flame fX7_flame) {Mc Mm : ctM} (hs : Sim Mc Mm) {i : Nat} (hi : i + 6 ≤ L) (hl : lv_has ls 4 [(0, .ref b), (1, .ref s.heap.size), (2, .ref (s.heap.size + 149)), (3, .int (nI i))]) (w1 : ctH (lB1 l D cy s.heap.size aK aV false) 149 Mc H) (w2 : ctH (lB2 l D cy s.heap.size aK aV false) 21 Mm H) (S : va_S (fun q : Nat => s.heap.size ≤ q) s.heap H locs)
    (next : ∀ (Mc2 Mm2 : ctM) (H1 : Heap) (locs1 : List Loc), Sim Mc2 Mm2 → ctH (lB1 l D cy s.heap.size aK aV false) 149 Mc2 H1 → ctH (lB2 l D cy s.heap.size aK aV false) 21 Mm2 H1 → va_S (fun q : Nat => s.heap.size ≤ q) s.heap H1 locs1 → W p l e room_1 s m #[Value.ref b] below meth c H1 locs1 600000 7302250 (lw_Z below #[Value.ref b] s) (F0 m 1361 ls [])) : W p l e room_1 s m #[Value.ref b] below meth c H locs 600000 7302250 (lw_Z below #[Value.ref b] s) (F0 m 204 ls []) := by
  obtain ⟨v, Mc2, Mm2, g1, g2, g3⟩ := hop Mc Mm hs (xs (i + 1)) (xs (i + 2)) (xs (i + 3))
  obtain ⟨hx, hb, hr, hml, hown, hts, hX, hbl, hlocks, hgv⟩ := id C0
  have o1 : ctOk (lB1 l D cy s.heap.size aK aV false) kdC lnC 149 := fun a ha => ⟨rfl, rfl, kdC_lt a ha⟩
  have o2 : ctOk (lB2 l D cy s.heap.size aK aV false) kdM lnM 21 := fun a ha => ⟨rfl, rfl, kdM_lt a ha⟩
  refine lv_aload_n hx hb dL_law_204 rfl (lv_at hl 1 rfl) ?_
  refine lw_arg (pc := 205) (t := 1) C0 (by decide) dL_law_205 dL_law_206 dL_law_207 dL_law_208 dL_law_209 hl (by omega) hL S ?_
  refine lw_arg (pc := 210) (t := 2) C0 (by decide) dL_law_210 dL_law_211 dL_law_212 dL_law_213 dL_law_214 hl (by omega) hL S ?_
  refine lw_arg (pc := 215) (t := 3) C0 (by decide) dL_law_215 dL_law_216 dL_law_217 dL_law_218 dL_law_219 hl (by omega) hL S ?_
  refine lw_call (B := lB1 l D cy s.heap.size aK aV false) (pc := 220) (As := [.int (xs (i + 1)), .int (xs (i + 2)), .int (xs (i + 3))]) (rest := []) (ci := 6) C0 K1 (Nat.le_refl _) dL_law_220 lk_RL_13 rfl (by decide) (ctX6_flame o1 g1) rfl (by decide) rfl (by decide) (Nat.le_of_ble_eq_true rfl) (Nat.le_refl _) (Nat.le_refl _) hl.1 w1 S rfl (fun H1 locs1 w1 hz hk S => ?_)
  have w2 : ctH (lB2 l D cy s.heap.size aK aV false) 21 Mm H1 := ⟨w2.1.kept (fun k x hx => by
      have hlt := (w2.1 k x hx).lt
      have hl2 : k < 21 := by
        have := (List.getElem?_eq_some_iff.mp hx).1
        simpa [ctW] using this
      rw [ctW_at hl2] at hx
      cases hx
      exact hk _ hlt (fun z => by have := z.2; simp only [bHi, bLo] at this; omega)), w2.2.1, w2.2.2.1, fun h => by cases h⟩
  refine lv_aload_n hx hb dL_law_223 rfl (lv_at hl 2 rfl) ?_
  refine lw_arg (pc := 224) (t := 1) C0 (by decide) dL_law_224 dL_law_225 dL_law_226 dL_law_227 dL_law_228 hl (by omega) hL S ?_
  refine lw_arg (pc := 229) (t := 2) C0 (by decide) dL_law_229 dL_law_230 dL_law_231 dL_law_232 dL_law_233 hl (by omega) hL S ?_
  refine lw_arg (pc := 234) (t := 3) C0 (by decide) dL_law_234 dL_law_235 dL_law_236 dL_law_237 dL_law_238 hl (by omega) hL S ?_
  refine lw_call (B := lB2 l D cy s.heap.size aK aV false) (pc := 239) (As := [.int (xs (i + 1)), .int (xs (i + 2)), .int (xs (i + 3))]) (rest := [.int v]) (ci := 7) C0 K2 (Nat.le_add_right _ _) dL_law_239 lk_RL_17 rfl (by decide) (ctX7_flame o2 g2) rfl (by decide) rfl (by decide) (Nat.le_of_ble_eq_true rfl) (Nat.le_refl _) (Nat.le_refl _) hl.1 w2 S rfl (fun H2 locs2 w2 hz2 hk2 S => ?_)
  have w1 : ctH (lB1 l D cy s.heap.size aK aV false) 149 Mc2 H2 := ⟨w1.1.kept (fun k x hx => by
      have hlt := (w1.1 k x hx).lt
      have hl2 : k < 149 := by
        have := (List.getElem?_eq_some_iff.mp hx).1
        simpa [ctW] using this
      rw [ctW_at hl2] at hx
      cases hx
      exact hk2 _ hlt (fun z => by have := z.1; simp only [bHi, bLo] at this; omega)), w1.2.1, w1.2.2.1, fun h => by cases h⟩
  refine lv_icmp_eq (tgt := 1361) hx hb dL_law_242 (by decide) (fun _ => next Mc2 Mm2 H2 locs2 g3 w1 w2 S) (fun z => absurd rfl z)
set_option maxHeartbeats 4000000 in
set_option maxRecDepth 20000 in
theorem law_case_1 {Sim : ctM → ctM → Prop} {p : Program} {l : Launch} {e : Env} {s : State} {m : MethodId} {below : List Frame} {meth : Method} {c : Code} {b L : Nat} {xs : Nat → Int32} {H : Heap} {locs : List Loc} {ls : Array Slot} {D : va_G} {cy : Nat → ClassId} {aK aV : Nat → Nat} (hL : L ≤ 384) (C0 : lw_At p s m meth c b L xs) (K1 : ctK (lB1 l D cy s.heap.size aK aV false) s) (K2 : ctK (lB2 l D cy s.heap.size aK aV false) s) (hop : opS2 Sim fX6_told fX7_told) {Mc Mm : ctM} (hs : Sim Mc Mm) {i : Nat} (hi : i + 6 ≤ L) (hl : lv_has ls 4 [(0, .ref b), (1, .ref s.heap.size), (2, .ref (s.heap.size + 149)), (3, .int (nI i))]) (w1 : ctH (lB1 l D cy s.heap.size aK aV false) 149 Mc H) (w2 : ctH (lB2 l D cy s.heap.size aK aV false) 21 Mm H) (S : va_S (fun q : Nat => s.heap.size ≤ q) s.heap H locs)
    (next : ∀ (Mc2 Mm2 : ctM) (H1 : Heap) (locs1 : List Loc), Sim Mc2 Mm2 → ctH (lB1 l D cy s.heap.size aK aV false) 149 Mc2 H1 → ctH (lB2 l D cy s.heap.size aK aV false) 21 Mm2 H1 → va_S (fun q : Nat => s.heap.size ≤ q) s.heap H1 locs1 → W p l e room_1 s m #[Value.ref b] below meth c H1 locs1 600000 7302250 (lw_Z below #[Value.ref b] s) (F0 m 1361 ls [])) : W p l e room_1 s m #[Value.ref b] below meth c H locs 600000 7302250 (lw_Z below #[Value.ref b] s) (F0 m 247 ls []) := by
  obtain ⟨v, Mc2, Mm2, g1, g2, g3⟩ := hop Mc Mm hs (xs (i + 1)) (xs (i + 2))
  obtain ⟨hx, hb, hr, hml, hown, hts, hX, hbl, hlocks, hgv⟩ := id C0
  have o1 : ctOk (lB1 l D cy s.heap.size aK aV false) kdC lnC 149 := fun a ha => ⟨rfl, rfl, kdC_lt a ha⟩
  have o2 : ctOk (lB2 l D cy s.heap.size aK aV false) kdM lnM 21 := fun a ha => ⟨rfl, rfl, kdM_lt a ha⟩
  refine lv_aload_n hx hb dL_law_247 rfl (lv_at hl 1 rfl) ?_
  refine lw_arg (pc := 248) (t := 1) C0 (by decide) dL_law_248 dL_law_249 dL_law_250 dL_law_251 dL_law_252 hl (by omega) hL S ?_
  refine lw_arg (pc := 253) (t := 2) C0 (by decide) dL_law_253 dL_law_254 dL_law_255 dL_law_256 dL_law_257 hl (by omega) hL S ?_
  refine lw_call (B := lB1 l D cy s.heap.size aK aV false) (pc := 258) (As := [.int (xs (i + 1)), .int (xs (i + 2))]) (rest := []) (ci := 6) C0 K1 (Nat.le_refl _) dL_law_258 lk_RL_18 rfl (by decide) (ctX6_told o1 g1) rfl (by decide) rfl (by decide) (Nat.le_of_ble_eq_true rfl) (Nat.le_refl _) (Nat.le_refl _) hl.1 w1 S rfl (fun H1 locs1 w1 hz hk S => ?_)
  have w2 : ctH (lB2 l D cy s.heap.size aK aV false) 21 Mm H1 := ⟨w2.1.kept (fun k x hx => by
      have hlt := (w2.1 k x hx).lt
      have hl2 : k < 21 := by
        have := (List.getElem?_eq_some_iff.mp hx).1
        simpa [ctW] using this
      rw [ctW_at hl2] at hx
      cases hx
      exact hk _ hlt (fun z => by have := z.2; simp only [bHi, bLo] at this; omega)), w2.2.1, w2.2.2.1, fun h => by cases h⟩
  refine lv_aload_n hx hb dL_law_261 rfl (lv_at hl 2 rfl) ?_
  refine lw_arg (pc := 262) (t := 1) C0 (by decide) dL_law_262 dL_law_263 dL_law_264 dL_law_265 dL_law_266 hl (by omega) hL S ?_
  refine lw_arg (pc := 267) (t := 2) C0 (by decide) dL_law_267 dL_law_268 dL_law_269 dL_law_270 dL_law_271 hl (by omega) hL S ?_
  refine lw_call (B := lB2 l D cy s.heap.size aK aV false) (pc := 272) (As := [.int (xs (i + 1)), .int (xs (i + 2))]) (rest := [.int v]) (ci := 7) C0 K2 (Nat.le_add_right _ _) dL_law_272 lk_RL_22 rfl (by decide) (ctX7_told o2 g2) rfl (by decide) rfl (by decide) (Nat.le_of_ble_eq_true rfl) (Nat.le_refl _) (Nat.le_refl _) hl.1 w2 S rfl (fun H2 locs2 w2 hz2 hk2 S => ?_)
  have w1 : ctH (lB1 l D cy s.heap.size aK aV false) 149 Mc2 H2 := ⟨w1.1.kept (fun k x hx => by
      have hlt := (w1.1 k x hx).lt
      have hl2 : k < 149 := by
        have := (List.getElem?_eq_some_iff.mp hx).1
        simpa [ctW] using this
      rw [ctW_at hl2] at hx
      cases hx
      exact hk2 _ hlt (fun z => by have := z.1; simp only [bHi, bLo] at this; omega)), w1.2.1, w1.2.2.1, fun h => by cases h⟩
  refine lv_icmp_eq (tgt := 1361) hx hb dL_law_275 (by decide) (fun _ => next Mc2 Mm2 H2 locs2 g3 w1 w2 S) (fun z => absurd rfl z)
set_option maxHeartbeats 4000000 in
set_option maxRecDepth 20000 in
theorem law_case_2 {Sim : ctM → ctM → Prop} {p : Program} {l : Launch} {e : Env} {s : State} {m : MethodId} {below : List Frame} {meth : Method} {c : Code} {b L : Nat} {xs : Nat → Int32} {H : Heap} {locs : List Loc} {ls : Array Slot} {D : va_G} {cy : Nat → ClassId} {aK aV : Nat → Nat} (hL : L ≤ 384) (C0 : lw_At p s m meth c b L xs) (K1 : ctK (lB1 l D cy s.heap.size aK aV false) s) (K2 : ctK (lB2 l D cy s.heap.size aK aV false) s) (hop : opS2 Sim fX6_as fX7_as) {Mc Mm : ctM} (hs : Sim Mc Mm) {i : Nat} (hi : i + 6 ≤ L) (hl : lv_has ls 4 [(0, .ref b), (1, .ref s.heap.size), (2, .ref (s.heap.size + 149)), (3, .int (nI i))]) (w1 : ctH (lB1 l D cy s.heap.size aK aV false) 149 Mc H) (w2 : ctH (lB2 l D cy s.heap.size aK aV false) 21 Mm H) (S : va_S (fun q : Nat => s.heap.size ≤ q) s.heap H locs)
    (next : ∀ (Mc2 Mm2 : ctM) (H1 : Heap) (locs1 : List Loc), Sim Mc2 Mm2 → ctH (lB1 l D cy s.heap.size aK aV false) 149 Mc2 H1 → ctH (lB2 l D cy s.heap.size aK aV false) 21 Mm2 H1 → va_S (fun q : Nat => s.heap.size ≤ q) s.heap H1 locs1 → W p l e room_1 s m #[Value.ref b] below meth c H1 locs1 600000 7302250 (lw_Z below #[Value.ref b] s) (F0 m 1361 ls [])) : W p l e room_1 s m #[Value.ref b] below meth c H locs 600000 7302250 (lw_Z below #[Value.ref b] s) (F0 m 280 ls []) := by
  obtain ⟨v, Mc2, Mm2, g1, g2, g3⟩ := hop Mc Mm hs (xs (i + 1)) (xs (i + 2))
  obtain ⟨hx, hb, hr, hml, hown, hts, hX, hbl, hlocks, hgv⟩ := id C0
  have o1 : ctOk (lB1 l D cy s.heap.size aK aV false) kdC lnC 149 := fun a ha => ⟨rfl, rfl, kdC_lt a ha⟩
  have o2 : ctOk (lB2 l D cy s.heap.size aK aV false) kdM lnM 21 := fun a ha => ⟨rfl, rfl, kdM_lt a ha⟩
  refine lv_aload_n hx hb dL_law_280 rfl (lv_at hl 1 rfl) ?_
  refine lw_arg (pc := 281) (t := 1) C0 (by decide) dL_law_281 dL_law_282 dL_law_283 dL_law_284 dL_law_285 hl (by omega) hL S ?_
  refine lw_arg (pc := 286) (t := 2) C0 (by decide) dL_law_286 dL_law_287 dL_law_288 dL_law_289 dL_law_290 hl (by omega) hL S ?_
  refine lw_call (B := lB1 l D cy s.heap.size aK aV false) (pc := 291) (As := [.int (xs (i + 1)), .int (xs (i + 2))]) (rest := []) (ci := 6) C0 K1 (Nat.le_refl _) dL_law_291 lk_RL_23 rfl (by decide) (ctX6_as o1 g1) rfl (by decide) rfl (by decide) (Nat.le_of_ble_eq_true rfl) (Nat.le_refl _) (Nat.le_refl _) hl.1 w1 S rfl (fun H1 locs1 w1 hz hk S => ?_)
  have w2 : ctH (lB2 l D cy s.heap.size aK aV false) 21 Mm H1 := ⟨w2.1.kept (fun k x hx => by
      have hlt := (w2.1 k x hx).lt
      have hl2 : k < 21 := by
        have := (List.getElem?_eq_some_iff.mp hx).1
        simpa [ctW] using this
      rw [ctW_at hl2] at hx
      cases hx
      exact hk _ hlt (fun z => by have := z.2; simp only [bHi, bLo] at this; omega)), w2.2.1, w2.2.2.1, fun h => by cases h⟩
  refine lv_aload_n hx hb dL_law_294 rfl (lv_at hl 2 rfl) ?_
  refine lw_arg (pc := 295) (t := 1) C0 (by decide) dL_law_295 dL_law_296 dL_law_297 dL_law_298 dL_law_299 hl (by omega) hL S ?_
  refine lw_arg (pc := 300) (t := 2) C0 (by decide) dL_law_300 dL_law_301 dL_law_302 dL_law_303 dL_law_304 hl (by omega) hL S ?_
  refine lw_call (B := lB2 l D cy s.heap.size aK aV false) (pc := 305) (As := [.int (xs (i + 1)), .int (xs (i + 2))]) (rest := [.int v]) (ci := 7) C0 K2 (Nat.le_add_right _ _) dL_law_305 lk_RL_26 rfl (by decide) (ctX7_as o2 g2) rfl (by decide) rfl (by decide) (Nat.le_of_ble_eq_true rfl) (Nat.le_refl _) (Nat.le_refl _) hl.1 w2 S rfl (fun H2 locs2 w2 hz2 hk2 S => ?_)
  have w1 : ctH (lB1 l D cy s.heap.size aK aV false) 149 Mc2 H2 := ⟨w1.1.kept (fun k x hx => by
      have hlt := (w1.1 k x hx).lt
      have hl2 : k < 149 := by
        have := (List.getElem?_eq_some_iff.mp hx).1
        simpa [ctW] using this
      rw [ctW_at hl2] at hx
      cases hx
      exact hk2 _ hlt (fun z => by have := z.1; simp only [bHi, bLo] at this; omega)), w1.2.1, w1.2.2.1, fun h => by cases h⟩
  refine lv_icmp_eq (tgt := 1361) hx hb dL_law_308 (by decide) (fun _ => next Mc2 Mm2 H2 locs2 g3 w1 w2 S) (fun z => absurd rfl z)
set_option maxHeartbeats 4000000 in
set_option maxRecDepth 20000 in
theorem law_case_3 {Sim : ctM → ctM → Prop} {p : Program} {l : Launch} {e : Env} {s : State} {m : MethodId} {below : List Frame} {meth : Method} {c : Code} {b L : Nat} {xs : Nat → Int32} {H : Heap} {locs : List Loc} {ls : Array Slot} {D : va_G} {cy : Nat → ClassId} {aK aV : Nat → Nat} (hL : L ≤ 384) (C0 : lw_At p s m meth c b L xs) (K1 : ctK (lB1 l D cy s.heap.size aK aV false) s) (K2 : ctK (lB2 l D cy s.heap.size aK aV false) s) (hop : opS2 Sim fX6_turns fX7_turns) {Mc Mm : ctM} (hs : Sim Mc Mm) {i : Nat} (hi : i + 6 ≤ L) (hl : lv_has ls 4 [(0, .ref b), (1, .ref s.heap.size), (2, .ref (s.heap.size + 149)), (3, .int (nI i))]) (w1 : ctH (lB1 l D cy s.heap.size aK aV false) 149 Mc H) (w2 : ctH (lB2 l D cy s.heap.size aK aV false) 21 Mm H) (S : va_S (fun q : Nat => s.heap.size ≤ q) s.heap H locs)
    (next : ∀ (Mc2 Mm2 : ctM) (H1 : Heap) (locs1 : List Loc), Sim Mc2 Mm2 → ctH (lB1 l D cy s.heap.size aK aV false) 149 Mc2 H1 → ctH (lB2 l D cy s.heap.size aK aV false) 21 Mm2 H1 → va_S (fun q : Nat => s.heap.size ≤ q) s.heap H1 locs1 → W p l e room_1 s m #[Value.ref b] below meth c H1 locs1 600000 7302250 (lw_Z below #[Value.ref b] s) (F0 m 1361 ls [])) : W p l e room_1 s m #[Value.ref b] below meth c H locs 600000 7302250 (lw_Z below #[Value.ref b] s) (F0 m 313 ls []) := by
  obtain ⟨v, Mc2, Mm2, g1, g2, g3⟩ := hop Mc Mm hs (xs (i + 1)) (xs (i + 2))
  obtain ⟨hx, hb, hr, hml, hown, hts, hX, hbl, hlocks, hgv⟩ := id C0
  have o1 : ctOk (lB1 l D cy s.heap.size aK aV false) kdC lnC 149 := fun a ha => ⟨rfl, rfl, kdC_lt a ha⟩
  have o2 : ctOk (lB2 l D cy s.heap.size aK aV false) kdM lnM 21 := fun a ha => ⟨rfl, rfl, kdM_lt a ha⟩
  refine lv_aload_n hx hb dL_law_313 rfl (lv_at hl 1 rfl) ?_
  refine lw_arg (pc := 314) (t := 1) C0 (by decide) dL_law_314 dL_law_315 dL_law_316 dL_law_317 dL_law_318 hl (by omega) hL S ?_
  refine lw_arg (pc := 319) (t := 2) C0 (by decide) dL_law_319 dL_law_320 dL_law_321 dL_law_322 dL_law_323 hl (by omega) hL S ?_
  refine lw_call (B := lB1 l D cy s.heap.size aK aV false) (pc := 324) (As := [.int (xs (i + 1)), .int (xs (i + 2))]) (rest := []) (ci := 6) C0 K1 (Nat.le_refl _) dL_law_324 lk_RL_27 rfl (by decide) (ctX6_turns o1 g1) rfl (by decide) rfl (by decide) (Nat.le_of_ble_eq_true rfl) (Nat.le_refl _) (Nat.le_refl _) hl.1 w1 S rfl (fun H1 locs1 w1 hz hk S => ?_)
  have w2 : ctH (lB2 l D cy s.heap.size aK aV false) 21 Mm H1 := ⟨w2.1.kept (fun k x hx => by
      have hlt := (w2.1 k x hx).lt
      have hl2 : k < 21 := by
        have := (List.getElem?_eq_some_iff.mp hx).1
        simpa [ctW] using this
      rw [ctW_at hl2] at hx
      cases hx
      exact hk _ hlt (fun z => by have := z.2; simp only [bHi, bLo] at this; omega)), w2.2.1, w2.2.2.1, fun h => by cases h⟩
  refine lv_aload_n hx hb dL_law_327 rfl (lv_at hl 2 rfl) ?_
  refine lw_arg (pc := 328) (t := 1) C0 (by decide) dL_law_328 dL_law_329 dL_law_330 dL_law_331 dL_law_332 hl (by omega) hL S ?_
  refine lw_arg (pc := 333) (t := 2) C0 (by decide) dL_law_333 dL_law_334 dL_law_335 dL_law_336 dL_law_337 hl (by omega) hL S ?_
  refine lw_call (B := lB2 l D cy s.heap.size aK aV false) (pc := 338) (As := [.int (xs (i + 1)), .int (xs (i + 2))]) (rest := [.int v]) (ci := 7) C0 K2 (Nat.le_add_right _ _) dL_law_338 lk_RL_30 rfl (by decide) (ctX7_turns o2 g2) rfl (by decide) rfl (by decide) (Nat.le_of_ble_eq_true rfl) (Nat.le_refl _) (Nat.le_refl _) hl.1 w2 S rfl (fun H2 locs2 w2 hz2 hk2 S => ?_)
  have w1 : ctH (lB1 l D cy s.heap.size aK aV false) 149 Mc2 H2 := ⟨w1.1.kept (fun k x hx => by
      have hlt := (w1.1 k x hx).lt
      have hl2 : k < 149 := by
        have := (List.getElem?_eq_some_iff.mp hx).1
        simpa [ctW] using this
      rw [ctW_at hl2] at hx
      cases hx
      exact hk2 _ hlt (fun z => by have := z.1; simp only [bHi, bLo] at this; omega)), w1.2.1, w1.2.2.1, fun h => by cases h⟩
  refine lv_icmp_eq (tgt := 1361) hx hb dL_law_341 (by decide) (fun _ => next Mc2 Mm2 H2 locs2 g3 w1 w2 S) (fun z => absurd rfl z)
set_option maxHeartbeats 4000000 in
set_option maxRecDepth 20000 in
theorem law_case_4 {Sim : ctM → ctM → Prop} {p : Program} {l : Launch} {e : Env} {s : State} {m : MethodId} {below : List Frame} {meth : Method} {c : Code} {b L : Nat} {xs : Nat → Int32} {H : Heap} {locs : List Loc} {ls : Array Slot} {D : va_G} {cy : Nat → ClassId} {aK aV : Nat → Nat} (hL : L ≤ 384) (C0 : lw_At p s m meth c b L xs) (K1 : ctK (lB1 l D cy s.heap.size aK aV false) s) (K2 : ctK (lB2 l D cy s.heap.size aK aV false) s) (hop : opS3 Sim fX6_set fX7_set) {Mc Mm : ctM} (hs : Sim Mc Mm) {i : Nat} (hi : i + 6 ≤ L) (hl : lv_has ls 4 [(0, .ref b), (1, .ref s.heap.size), (2, .ref (s.heap.size + 149)), (3, .int (nI i))]) (w1 : ctH (lB1 l D cy s.heap.size aK aV false) 149 Mc H) (w2 : ctH (lB2 l D cy s.heap.size aK aV false) 21 Mm H) (S : va_S (fun q : Nat => s.heap.size ≤ q) s.heap H locs)
    (next : ∀ (Mc2 Mm2 : ctM) (H1 : Heap) (locs1 : List Loc), Sim Mc2 Mm2 → ctH (lB1 l D cy s.heap.size aK aV false) 149 Mc2 H1 → ctH (lB2 l D cy s.heap.size aK aV false) 21 Mm2 H1 → va_S (fun q : Nat => s.heap.size ≤ q) s.heap H1 locs1 → W p l e room_1 s m #[Value.ref b] below meth c H1 locs1 600000 7302250 (lw_Z below #[Value.ref b] s) (F0 m 1361 ls [])) : W p l e room_1 s m #[Value.ref b] below meth c H locs 600000 7302250 (lw_Z below #[Value.ref b] s) (F0 m 346 ls []) := by
  obtain ⟨v, Mc2, Mm2, g1, g2, g3⟩ := hop Mc Mm hs (xs (i + 1)) (xs (i + 2)) (xs (i + 3))
  obtain ⟨hx, hb, hr, hml, hown, hts, hX, hbl, hlocks, hgv⟩ := id C0
  have o1 : ctOk (lB1 l D cy s.heap.size aK aV false) kdC lnC 149 := fun a ha => ⟨rfl, rfl, kdC_lt a ha⟩
  have o2 : ctOk (lB2 l D cy s.heap.size aK aV false) kdM lnM 21 := fun a ha => ⟨rfl, rfl, kdM_lt a ha⟩
  refine lv_aload_n hx hb dL_law_346 rfl (lv_at hl 1 rfl) ?_
  refine lw_arg (pc := 347) (t := 1) C0 (by decide) dL_law_347 dL_law_348 dL_law_349 dL_law_350 dL_law_351 hl (by omega) hL S ?_
  refine lw_arg (pc := 352) (t := 2) C0 (by decide) dL_law_352 dL_law_353 dL_law_354 dL_law_355 dL_law_356 hl (by omega) hL S ?_
  refine lw_arg (pc := 357) (t := 3) C0 (by decide) dL_law_357 dL_law_358 dL_law_359 dL_law_360 dL_law_361 hl (by omega) hL S ?_
  refine lw_call (B := lB1 l D cy s.heap.size aK aV false) (pc := 362) (As := [.int (xs (i + 1)), .int (xs (i + 2)), .int (xs (i + 3))]) (rest := []) (ci := 6) C0 K1 (Nat.le_refl _) dL_law_362 lk_RL_31 rfl (by decide) (ctX6_set o1 g1) rfl (by decide) rfl (by decide) (Nat.le_of_ble_eq_true rfl) (Nat.le_refl _) (Nat.le_refl _) hl.1 w1 S rfl (fun H1 locs1 w1 hz hk S => ?_)
  have w2 : ctH (lB2 l D cy s.heap.size aK aV false) 21 Mm H1 := ⟨w2.1.kept (fun k x hx => by
      have hlt := (w2.1 k x hx).lt
      have hl2 : k < 21 := by
        have := (List.getElem?_eq_some_iff.mp hx).1
        simpa [ctW] using this
      rw [ctW_at hl2] at hx
      cases hx
      exact hk _ hlt (fun z => by have := z.2; simp only [bHi, bLo] at this; omega)), w2.2.1, w2.2.2.1, fun h => by cases h⟩
  refine lv_aload_n hx hb dL_law_365 rfl (lv_at hl 2 rfl) ?_
  refine lw_arg (pc := 366) (t := 1) C0 (by decide) dL_law_366 dL_law_367 dL_law_368 dL_law_369 dL_law_370 hl (by omega) hL S ?_
  refine lw_arg (pc := 371) (t := 2) C0 (by decide) dL_law_371 dL_law_372 dL_law_373 dL_law_374 dL_law_375 hl (by omega) hL S ?_
  refine lw_arg (pc := 376) (t := 3) C0 (by decide) dL_law_376 dL_law_377 dL_law_378 dL_law_379 dL_law_380 hl (by omega) hL S ?_
  refine lw_call (B := lB2 l D cy s.heap.size aK aV false) (pc := 381) (As := [.int (xs (i + 1)), .int (xs (i + 2)), .int (xs (i + 3))]) (rest := [.int v]) (ci := 7) C0 K2 (Nat.le_add_right _ _) dL_law_381 lk_RL_34 rfl (by decide) (ctX7_set o2 g2) rfl (by decide) rfl (by decide) (Nat.le_of_ble_eq_true rfl) (Nat.le_refl _) (Nat.le_refl _) hl.1 w2 S rfl (fun H2 locs2 w2 hz2 hk2 S => ?_)
  have w1 : ctH (lB1 l D cy s.heap.size aK aV false) 149 Mc2 H2 := ⟨w1.1.kept (fun k x hx => by
      have hlt := (w1.1 k x hx).lt
      have hl2 : k < 149 := by
        have := (List.getElem?_eq_some_iff.mp hx).1
        simpa [ctW] using this
      rw [ctW_at hl2] at hx
      cases hx
      exact hk2 _ hlt (fun z => by have := z.1; simp only [bHi, bLo] at this; omega)), w1.2.1, w1.2.2.1, fun h => by cases h⟩
  refine lv_icmp_eq (tgt := 1361) hx hb dL_law_384 (by decide) (fun _ => next Mc2 Mm2 H2 locs2 g3 w1 w2 S) (fun z => absurd rfl z)
set_option maxHeartbeats 4000000 in
set_option maxRecDepth 20000 in
theorem law_case_5 {Sim : ctM → ctM → Prop} {p : Program} {l : Launch} {e : Env} {s : State} {m : MethodId} {below : List Frame} {meth : Method} {c : Code} {b L : Nat} {xs : Nat → Int32} {H : Heap} {locs : List Loc} {ls : Array Slot} {D : va_G} {cy : Nat → ClassId} {aK aV : Nat → Nat} (hL : L ≤ 384) (C0 : lw_At p s m meth c b L xs) (K1 : ctK (lB1 l D cy s.heap.size aK aV false) s) (K2 : ctK (lB2 l D cy s.heap.size aK aV false) s) (hop : opS2 Sim fX6_move fX7_move) {Mc Mm : ctM} (hs : Sim Mc Mm) {i : Nat} (hi : i + 6 ≤ L) (hl : lv_has ls 4 [(0, .ref b), (1, .ref s.heap.size), (2, .ref (s.heap.size + 149)), (3, .int (nI i))]) (w1 : ctH (lB1 l D cy s.heap.size aK aV false) 149 Mc H) (w2 : ctH (lB2 l D cy s.heap.size aK aV false) 21 Mm H) (S : va_S (fun q : Nat => s.heap.size ≤ q) s.heap H locs)
    (next : ∀ (Mc2 Mm2 : ctM) (H1 : Heap) (locs1 : List Loc), Sim Mc2 Mm2 → ctH (lB1 l D cy s.heap.size aK aV false) 149 Mc2 H1 → ctH (lB2 l D cy s.heap.size aK aV false) 21 Mm2 H1 → va_S (fun q : Nat => s.heap.size ≤ q) s.heap H1 locs1 → W p l e room_1 s m #[Value.ref b] below meth c H1 locs1 600000 7302250 (lw_Z below #[Value.ref b] s) (F0 m 1361 ls [])) : W p l e room_1 s m #[Value.ref b] below meth c H locs 600000 7302250 (lw_Z below #[Value.ref b] s) (F0 m 389 ls []) := by
  obtain ⟨v, Mc2, Mm2, g1, g2, g3⟩ := hop Mc Mm hs (xs (i + 1)) (xs (i + 2))
  obtain ⟨hx, hb, hr, hml, hown, hts, hX, hbl, hlocks, hgv⟩ := id C0
  have o1 : ctOk (lB1 l D cy s.heap.size aK aV false) kdC lnC 149 := fun a ha => ⟨rfl, rfl, kdC_lt a ha⟩
  have o2 : ctOk (lB2 l D cy s.heap.size aK aV false) kdM lnM 21 := fun a ha => ⟨rfl, rfl, kdM_lt a ha⟩
  refine lv_aload_n hx hb dL_law_389 rfl (lv_at hl 1 rfl) ?_
  refine lw_arg (pc := 390) (t := 1) C0 (by decide) dL_law_390 dL_law_391 dL_law_392 dL_law_393 dL_law_394 hl (by omega) hL S ?_
  refine lw_arg (pc := 395) (t := 2) C0 (by decide) dL_law_395 dL_law_396 dL_law_397 dL_law_398 dL_law_399 hl (by omega) hL S ?_
  refine lw_call (B := lB1 l D cy s.heap.size aK aV false) (pc := 400) (As := [.int (xs (i + 1)), .int (xs (i + 2))]) (rest := []) (ci := 6) C0 K1 (Nat.le_refl _) dL_law_400 lk_RL_35 rfl (by decide) (ctX6_move o1 g1) rfl (by decide) rfl (by decide) (Nat.le_of_ble_eq_true rfl) (Nat.le_refl _) (Nat.le_refl _) hl.1 w1 S rfl (fun H1 locs1 w1 hz hk S => ?_)
  have w2 : ctH (lB2 l D cy s.heap.size aK aV false) 21 Mm H1 := ⟨w2.1.kept (fun k x hx => by
      have hlt := (w2.1 k x hx).lt
      have hl2 : k < 21 := by
        have := (List.getElem?_eq_some_iff.mp hx).1
        simpa [ctW] using this
      rw [ctW_at hl2] at hx
      cases hx
      exact hk _ hlt (fun z => by have := z.2; simp only [bHi, bLo] at this; omega)), w2.2.1, w2.2.2.1, fun h => by cases h⟩
  refine lv_aload_n hx hb dL_law_403 rfl (lv_at hl 2 rfl) ?_
  refine lw_arg (pc := 404) (t := 1) C0 (by decide) dL_law_404 dL_law_405 dL_law_406 dL_law_407 dL_law_408 hl (by omega) hL S ?_
  refine lw_arg (pc := 409) (t := 2) C0 (by decide) dL_law_409 dL_law_410 dL_law_411 dL_law_412 dL_law_413 hl (by omega) hL S ?_
  refine lw_call (B := lB2 l D cy s.heap.size aK aV false) (pc := 414) (As := [.int (xs (i + 1)), .int (xs (i + 2))]) (rest := [.int v]) (ci := 7) C0 K2 (Nat.le_add_right _ _) dL_law_414 lk_RL_38 rfl (by decide) (ctX7_move o2 g2) rfl (by decide) rfl (by decide) (Nat.le_of_ble_eq_true rfl) (Nat.le_refl _) (Nat.le_refl _) hl.1 w2 S rfl (fun H2 locs2 w2 hz2 hk2 S => ?_)
  have w1 : ctH (lB1 l D cy s.heap.size aK aV false) 149 Mc2 H2 := ⟨w1.1.kept (fun k x hx => by
      have hlt := (w1.1 k x hx).lt
      have hl2 : k < 149 := by
        have := (List.getElem?_eq_some_iff.mp hx).1
        simpa [ctW] using this
      rw [ctW_at hl2] at hx
      cases hx
      exact hk2 _ hlt (fun z => by have := z.1; simp only [bHi, bLo] at this; omega)), w1.2.1, w1.2.2.1, fun h => by cases h⟩
  refine lv_icmp_eq (tgt := 1361) hx hb dL_law_417 (by decide) (fun _ => next Mc2 Mm2 H2 locs2 g3 w1 w2 S) (fun z => absurd rfl z)
set_option maxHeartbeats 4000000 in
set_option maxRecDepth 20000 in
theorem law_case_6 {Sim : ctM → ctM → Prop} {p : Program} {l : Launch} {e : Env} {s : State} {m : MethodId} {below : List Frame} {meth : Method} {c : Code} {b L : Nat} {xs : Nat → Int32} {H : Heap} {locs : List Loc} {ls : Array Slot} {D : va_G} {cy : Nat → ClassId} {aK aV : Nat → Nat} (hL : L ≤ 384) (C0 : lw_At p s m meth c b L xs) (K1 : ctK (lB1 l D cy s.heap.size aK aV false) s) (K2 : ctK (lB2 l D cy s.heap.size aK aV false) s) (hop : opS3 Sim fX6_glass fX7_glass) {Mc Mm : ctM} (hs : Sim Mc Mm) {i : Nat} (hi : i + 6 ≤ L) (hl : lv_has ls 4 [(0, .ref b), (1, .ref s.heap.size), (2, .ref (s.heap.size + 149)), (3, .int (nI i))]) (w1 : ctH (lB1 l D cy s.heap.size aK aV false) 149 Mc H) (w2 : ctH (lB2 l D cy s.heap.size aK aV false) 21 Mm H) (S : va_S (fun q : Nat => s.heap.size ≤ q) s.heap H locs)
    (next : ∀ (Mc2 Mm2 : ctM) (H1 : Heap) (locs1 : List Loc), Sim Mc2 Mm2 → ctH (lB1 l D cy s.heap.size aK aV false) 149 Mc2 H1 → ctH (lB2 l D cy s.heap.size aK aV false) 21 Mm2 H1 → va_S (fun q : Nat => s.heap.size ≤ q) s.heap H1 locs1 → W p l e room_1 s m #[Value.ref b] below meth c H1 locs1 600000 7302250 (lw_Z below #[Value.ref b] s) (F0 m 1361 ls [])) : W p l e room_1 s m #[Value.ref b] below meth c H locs 600000 7302250 (lw_Z below #[Value.ref b] s) (F0 m 422 ls []) := by
  obtain ⟨v, Mc2, Mm2, g1, g2, g3⟩ := hop Mc Mm hs (xs (i + 1)) (xs (i + 2)) (xs (i + 3))
  obtain ⟨hx, hb, hr, hml, hown, hts, hX, hbl, hlocks, hgv⟩ := id C0
  have o1 : ctOk (lB1 l D cy s.heap.size aK aV false) kdC lnC 149 := fun a ha => ⟨rfl, rfl, kdC_lt a ha⟩
  have o2 : ctOk (lB2 l D cy s.heap.size aK aV false) kdM lnM 21 := fun a ha => ⟨rfl, rfl, kdM_lt a ha⟩
  refine lv_aload_n hx hb dL_law_422 rfl (lv_at hl 1 rfl) ?_
  refine lw_arg (pc := 423) (t := 1) C0 (by decide) dL_law_423 dL_law_424 dL_law_425 dL_law_426 dL_law_427 hl (by omega) hL S ?_
  refine lw_arg (pc := 428) (t := 2) C0 (by decide) dL_law_428 dL_law_429 dL_law_430 dL_law_431 dL_law_432 hl (by omega) hL S ?_
  refine lw_arg (pc := 433) (t := 3) C0 (by decide) dL_law_433 dL_law_434 dL_law_435 dL_law_436 dL_law_437 hl (by omega) hL S ?_
  refine lw_call (B := lB1 l D cy s.heap.size aK aV false) (pc := 438) (As := [.int (xs (i + 1)), .int (xs (i + 2)), .int (xs (i + 3))]) (rest := []) (ci := 6) C0 K1 (Nat.le_refl _) dL_law_438 lk_RL_39 rfl (by decide) (ctX6_glass o1 g1) rfl (by decide) rfl (by decide) (Nat.le_of_ble_eq_true rfl) (Nat.le_refl _) (Nat.le_refl _) hl.1 w1 S rfl (fun H1 locs1 w1 hz hk S => ?_)
  have w2 : ctH (lB2 l D cy s.heap.size aK aV false) 21 Mm H1 := ⟨w2.1.kept (fun k x hx => by
      have hlt := (w2.1 k x hx).lt
      have hl2 : k < 21 := by
        have := (List.getElem?_eq_some_iff.mp hx).1
        simpa [ctW] using this
      rw [ctW_at hl2] at hx
      cases hx
      exact hk _ hlt (fun z => by have := z.2; simp only [bHi, bLo] at this; omega)), w2.2.1, w2.2.2.1, fun h => by cases h⟩
  refine lv_aload_n hx hb dL_law_441 rfl (lv_at hl 2 rfl) ?_
  refine lw_arg (pc := 442) (t := 1) C0 (by decide) dL_law_442 dL_law_443 dL_law_444 dL_law_445 dL_law_446 hl (by omega) hL S ?_
  refine lw_arg (pc := 447) (t := 2) C0 (by decide) dL_law_447 dL_law_448 dL_law_449 dL_law_450 dL_law_451 hl (by omega) hL S ?_
  refine lw_arg (pc := 452) (t := 3) C0 (by decide) dL_law_452 dL_law_453 dL_law_454 dL_law_455 dL_law_456 hl (by omega) hL S ?_
  refine lw_call (B := lB2 l D cy s.heap.size aK aV false) (pc := 457) (As := [.int (xs (i + 1)), .int (xs (i + 2)), .int (xs (i + 3))]) (rest := [.int v]) (ci := 7) C0 K2 (Nat.le_add_right _ _) dL_law_457 lk_RL_42 rfl (by decide) (ctX7_glass o2 g2) rfl (by decide) rfl (by decide) (Nat.le_of_ble_eq_true rfl) (Nat.le_refl _) (Nat.le_refl _) hl.1 w2 S rfl (fun H2 locs2 w2 hz2 hk2 S => ?_)
  have w1 : ctH (lB1 l D cy s.heap.size aK aV false) 149 Mc2 H2 := ⟨w1.1.kept (fun k x hx => by
      have hlt := (w1.1 k x hx).lt
      have hl2 : k < 149 := by
        have := (List.getElem?_eq_some_iff.mp hx).1
        simpa [ctW] using this
      rw [ctW_at hl2] at hx
      cases hx
      exact hk2 _ hlt (fun z => by have := z.1; simp only [bHi, bLo] at this; omega)), w1.2.1, w1.2.2.1, fun h => by cases h⟩
  refine lv_icmp_eq (tgt := 1361) hx hb dL_law_460 (by decide) (fun _ => next Mc2 Mm2 H2 locs2 g3 w1 w2 S) (fun z => absurd rfl z)
set_option maxHeartbeats 4000000 in
set_option maxRecDepth 20000 in
theorem law_case_7 {Sim : ctM → ctM → Prop} {p : Program} {l : Launch} {e : Env} {s : State} {m : MethodId} {below : List Frame} {meth : Method} {c : Code} {b L : Nat} {xs : Nat → Int32} {H : Heap} {locs : List Loc} {ls : Array Slot} {D : va_G} {cy : Nat → ClassId} {aK aV : Nat → Nat} (hL : L ≤ 384) (C0 : lw_At p s m meth c b L xs) (K1 : ctK (lB1 l D cy s.heap.size aK aV false) s) (K2 : ctK (lB2 l D cy s.heap.size aK aV false) s) (hop : opS2 Sim fX6_reach fX7_reach) {Mc Mm : ctM} (hs : Sim Mc Mm) {i : Nat} (hi : i + 6 ≤ L) (hl : lv_has ls 4 [(0, .ref b), (1, .ref s.heap.size), (2, .ref (s.heap.size + 149)), (3, .int (nI i))]) (w1 : ctH (lB1 l D cy s.heap.size aK aV false) 149 Mc H) (w2 : ctH (lB2 l D cy s.heap.size aK aV false) 21 Mm H) (S : va_S (fun q : Nat => s.heap.size ≤ q) s.heap H locs)
    (next : ∀ (Mc2 Mm2 : ctM) (H1 : Heap) (locs1 : List Loc), Sim Mc2 Mm2 → ctH (lB1 l D cy s.heap.size aK aV false) 149 Mc2 H1 → ctH (lB2 l D cy s.heap.size aK aV false) 21 Mm2 H1 → va_S (fun q : Nat => s.heap.size ≤ q) s.heap H1 locs1 → W p l e room_1 s m #[Value.ref b] below meth c H1 locs1 600000 7302250 (lw_Z below #[Value.ref b] s) (F0 m 1361 ls [])) : W p l e room_1 s m #[Value.ref b] below meth c H locs 600000 7302250 (lw_Z below #[Value.ref b] s) (F0 m 465 ls []) := by
  obtain ⟨v, Mc2, Mm2, g1, g2, g3⟩ := hop Mc Mm hs (xs (i + 1)) (xs (i + 2))
  obtain ⟨hx, hb, hr, hml, hown, hts, hX, hbl, hlocks, hgv⟩ := id C0
  have o1 : ctOk (lB1 l D cy s.heap.size aK aV false) kdC lnC 149 := fun a ha => ⟨rfl, rfl, kdC_lt a ha⟩
  have o2 : ctOk (lB2 l D cy s.heap.size aK aV false) kdM lnM 21 := fun a ha => ⟨rfl, rfl, kdM_lt a ha⟩
  refine lv_aload_n hx hb dL_law_465 rfl (lv_at hl 1 rfl) ?_
  refine lw_arg (pc := 466) (t := 1) C0 (by decide) dL_law_466 dL_law_467 dL_law_468 dL_law_469 dL_law_470 hl (by omega) hL S ?_
  refine lw_arg (pc := 471) (t := 2) C0 (by decide) dL_law_471 dL_law_472 dL_law_473 dL_law_474 dL_law_475 hl (by omega) hL S ?_
  refine lw_call (B := lB1 l D cy s.heap.size aK aV false) (pc := 476) (As := [.int (xs (i + 1)), .int (xs (i + 2))]) (rest := []) (ci := 6) C0 K1 (Nat.le_refl _) dL_law_476 lk_RL_43 rfl (by decide) (ctX6_reach o1 g1) rfl (by decide) rfl (by decide) (Nat.le_of_ble_eq_true rfl) (Nat.le_refl _) (Nat.le_refl _) hl.1 w1 S rfl (fun H1 locs1 w1 hz hk S => ?_)
  have w2 : ctH (lB2 l D cy s.heap.size aK aV false) 21 Mm H1 := ⟨w2.1.kept (fun k x hx => by
      have hlt := (w2.1 k x hx).lt
      have hl2 : k < 21 := by
        have := (List.getElem?_eq_some_iff.mp hx).1
        simpa [ctW] using this
      rw [ctW_at hl2] at hx
      cases hx
      exact hk _ hlt (fun z => by have := z.2; simp only [bHi, bLo] at this; omega)), w2.2.1, w2.2.2.1, fun h => by cases h⟩
  refine lv_aload_n hx hb dL_law_479 rfl (lv_at hl 2 rfl) ?_
  refine lw_arg (pc := 480) (t := 1) C0 (by decide) dL_law_480 dL_law_481 dL_law_482 dL_law_483 dL_law_484 hl (by omega) hL S ?_
  refine lw_arg (pc := 485) (t := 2) C0 (by decide) dL_law_485 dL_law_486 dL_law_487 dL_law_488 dL_law_489 hl (by omega) hL S ?_
  refine lw_call (B := lB2 l D cy s.heap.size aK aV false) (pc := 490) (As := [.int (xs (i + 1)), .int (xs (i + 2))]) (rest := [.int v]) (ci := 7) C0 K2 (Nat.le_add_right _ _) dL_law_490 lk_RL_46 rfl (by decide) (ctX7_reach o2 g2) rfl (by decide) rfl (by decide) (Nat.le_of_ble_eq_true rfl) (Nat.le_refl _) (Nat.le_refl _) hl.1 w2 S rfl (fun H2 locs2 w2 hz2 hk2 S => ?_)
  have w1 : ctH (lB1 l D cy s.heap.size aK aV false) 149 Mc2 H2 := ⟨w1.1.kept (fun k x hx => by
      have hlt := (w1.1 k x hx).lt
      have hl2 : k < 149 := by
        have := (List.getElem?_eq_some_iff.mp hx).1
        simpa [ctW] using this
      rw [ctW_at hl2] at hx
      cases hx
      exact hk2 _ hlt (fun z => by have := z.1; simp only [bHi, bLo] at this; omega)), w1.2.1, w1.2.2.1, fun h => by cases h⟩
  refine lv_icmp_eq (tgt := 1361) hx hb dL_law_493 (by decide) (fun _ => next Mc2 Mm2 H2 locs2 g3 w1 w2 S) (fun z => absurd rfl z)
set_option maxHeartbeats 4000000 in
set_option maxRecDepth 20000 in
theorem law_case_8 {Sim : ctM → ctM → Prop} {p : Program} {l : Launch} {e : Env} {s : State} {m : MethodId} {below : List Frame} {meth : Method} {c : Code} {b L : Nat} {xs : Nat → Int32} {H : Heap} {locs : List Loc} {ls : Array Slot} {D : va_G} {cy : Nat → ClassId} {aK aV : Nat → Nat} (hL : L ≤ 384) (C0 : lw_At p s m meth c b L xs) (K1 : ctK (lB1 l D cy s.heap.size aK aV false) s) (K2 : ctK (lB2 l D cy s.heap.size aK aV false) s) (hop : opS2 Sim fX6_push fX7_push) {Mc Mm : ctM} (hs : Sim Mc Mm) {i : Nat} (hi : i + 6 ≤ L) (hl : lv_has ls 4 [(0, .ref b), (1, .ref s.heap.size), (2, .ref (s.heap.size + 149)), (3, .int (nI i))]) (w1 : ctH (lB1 l D cy s.heap.size aK aV false) 149 Mc H) (w2 : ctH (lB2 l D cy s.heap.size aK aV false) 21 Mm H) (S : va_S (fun q : Nat => s.heap.size ≤ q) s.heap H locs)
    (next : ∀ (Mc2 Mm2 : ctM) (H1 : Heap) (locs1 : List Loc), Sim Mc2 Mm2 → ctH (lB1 l D cy s.heap.size aK aV false) 149 Mc2 H1 → ctH (lB2 l D cy s.heap.size aK aV false) 21 Mm2 H1 → va_S (fun q : Nat => s.heap.size ≤ q) s.heap H1 locs1 → W p l e room_1 s m #[Value.ref b] below meth c H1 locs1 600000 7302250 (lw_Z below #[Value.ref b] s) (F0 m 1361 ls [])) : W p l e room_1 s m #[Value.ref b] below meth c H locs 600000 7302250 (lw_Z below #[Value.ref b] s) (F0 m 498 ls []) := by
  obtain ⟨v, Mc2, Mm2, g1, g2, g3⟩ := hop Mc Mm hs (xs (i + 1)) (xs (i + 2))
  obtain ⟨hx, hb, hr, hml, hown, hts, hX, hbl, hlocks, hgv⟩ := id C0
  have o1 : ctOk (lB1 l D cy s.heap.size aK aV false) kdC lnC 149 := fun a ha => ⟨rfl, rfl, kdC_lt a ha⟩
  have o2 : ctOk (lB2 l D cy s.heap.size aK aV false) kdM lnM 21 := fun a ha => ⟨rfl, rfl, kdM_lt a ha⟩
  refine lv_aload_n hx hb dL_law_498 rfl (lv_at hl 1 rfl) ?_
  refine lw_arg (pc := 499) (t := 1) C0 (by decide) dL_law_499 dL_law_500 dL_law_501 dL_law_502 dL_law_503 hl (by omega) hL S ?_
  refine lw_arg (pc := 504) (t := 2) C0 (by decide) dL_law_504 dL_law_505 dL_law_506 dL_law_507 dL_law_508 hl (by omega) hL S ?_
  refine lw_call (B := lB1 l D cy s.heap.size aK aV false) (pc := 509) (As := [.int (xs (i + 1)), .int (xs (i + 2))]) (rest := []) (ci := 6) C0 K1 (Nat.le_refl _) dL_law_509 lk_RL_47 rfl (by decide) (ctX6_push o1 g1) rfl (by decide) rfl (by decide) (Nat.le_of_ble_eq_true rfl) (Nat.le_refl _) (Nat.le_refl _) hl.1 w1 S rfl (fun H1 locs1 w1 hz hk S => ?_)
  have w2 : ctH (lB2 l D cy s.heap.size aK aV false) 21 Mm H1 := ⟨w2.1.kept (fun k x hx => by
      have hlt := (w2.1 k x hx).lt
      have hl2 : k < 21 := by
        have := (List.getElem?_eq_some_iff.mp hx).1
        simpa [ctW] using this
      rw [ctW_at hl2] at hx
      cases hx
      exact hk _ hlt (fun z => by have := z.2; simp only [bHi, bLo] at this; omega)), w2.2.1, w2.2.2.1, fun h => by cases h⟩
  refine lv_aload_n hx hb dL_law_512 rfl (lv_at hl 2 rfl) ?_
  refine lw_arg (pc := 513) (t := 1) C0 (by decide) dL_law_513 dL_law_514 dL_law_515 dL_law_516 dL_law_517 hl (by omega) hL S ?_
  refine lw_arg (pc := 518) (t := 2) C0 (by decide) dL_law_518 dL_law_519 dL_law_520 dL_law_521 dL_law_522 hl (by omega) hL S ?_
  refine lw_call (B := lB2 l D cy s.heap.size aK aV false) (pc := 523) (As := [.int (xs (i + 1)), .int (xs (i + 2))]) (rest := [.int v]) (ci := 7) C0 K2 (Nat.le_add_right _ _) dL_law_523 lk_RL_50 rfl (by decide) (ctX7_push o2 g2) rfl (by decide) rfl (by decide) (Nat.le_of_ble_eq_true rfl) (Nat.le_refl _) (Nat.le_refl _) hl.1 w2 S rfl (fun H2 locs2 w2 hz2 hk2 S => ?_)
  have w1 : ctH (lB1 l D cy s.heap.size aK aV false) 149 Mc2 H2 := ⟨w1.1.kept (fun k x hx => by
      have hlt := (w1.1 k x hx).lt
      have hl2 : k < 149 := by
        have := (List.getElem?_eq_some_iff.mp hx).1
        simpa [ctW] using this
      rw [ctW_at hl2] at hx
      cases hx
      exact hk2 _ hlt (fun z => by have := z.1; simp only [bHi, bLo] at this; omega)), w1.2.1, w1.2.2.1, fun h => by cases h⟩
  refine lv_icmp_eq (tgt := 1361) hx hb dL_law_526 (by decide) (fun _ => next Mc2 Mm2 H2 locs2 g3 w1 w2 S) (fun z => absurd rfl z)
set_option maxHeartbeats 4000000 in
set_option maxRecDepth 20000 in
theorem law_case_9 {Sim : ctM → ctM → Prop} {p : Program} {l : Launch} {e : Env} {s : State} {m : MethodId} {below : List Frame} {meth : Method} {c : Code} {b L : Nat} {xs : Nat → Int32} {H : Heap} {locs : List Loc} {ls : Array Slot} {D : va_G} {cy : Nat → ClassId} {aK aV : Nat → Nat} (hL : L ≤ 384) (C0 : lw_At p s m meth c b L xs) (K1 : ctK (lB1 l D cy s.heap.size aK aV false) s) (K2 : ctK (lB2 l D cy s.heap.size aK aV false) s) (hop : opS1 Sim fX6_deal fX7_deal) {Mc Mm : ctM} (hs : Sim Mc Mm) {i : Nat} (hi : i + 6 ≤ L) (hl : lv_has ls 4 [(0, .ref b), (1, .ref s.heap.size), (2, .ref (s.heap.size + 149)), (3, .int (nI i))]) (w1 : ctH (lB1 l D cy s.heap.size aK aV false) 149 Mc H) (w2 : ctH (lB2 l D cy s.heap.size aK aV false) 21 Mm H) (S : va_S (fun q : Nat => s.heap.size ≤ q) s.heap H locs)
    (next : ∀ (Mc2 Mm2 : ctM) (H1 : Heap) (locs1 : List Loc), Sim Mc2 Mm2 → ctH (lB1 l D cy s.heap.size aK aV false) 149 Mc2 H1 → ctH (lB2 l D cy s.heap.size aK aV false) 21 Mm2 H1 → va_S (fun q : Nat => s.heap.size ≤ q) s.heap H1 locs1 → W p l e room_1 s m #[Value.ref b] below meth c H1 locs1 600000 7302250 (lw_Z below #[Value.ref b] s) (F0 m 1361 ls [])) : W p l e room_1 s m #[Value.ref b] below meth c H locs 600000 7302250 (lw_Z below #[Value.ref b] s) (F0 m 531 ls []) := by
  obtain ⟨v, Mc2, Mm2, g1, g2, g3⟩ := hop Mc Mm hs (xs (i + 1))
  obtain ⟨hx, hb, hr, hml, hown, hts, hX, hbl, hlocks, hgv⟩ := id C0
  have o1 : ctOk (lB1 l D cy s.heap.size aK aV false) kdC lnC 149 := fun a ha => ⟨rfl, rfl, kdC_lt a ha⟩
  have o2 : ctOk (lB2 l D cy s.heap.size aK aV false) kdM lnM 21 := fun a ha => ⟨rfl, rfl, kdM_lt a ha⟩
  refine lv_aload_n hx hb dL_law_531 rfl (lv_at hl 1 rfl) ?_
  refine lw_arg (pc := 532) (t := 1) C0 (by decide) dL_law_532 dL_law_533 dL_law_534 dL_law_535 dL_law_536 hl (by omega) hL S ?_
  refine lw_call (B := lB1 l D cy s.heap.size aK aV false) (pc := 537) (As := [.int (xs (i + 1))]) (rest := []) (ci := 6) C0 K1 (Nat.le_refl _) dL_law_537 lk_RL_51 rfl (by decide) (ctX6_deal o1 g1) rfl (by decide) rfl (by decide) (Nat.le_of_ble_eq_true rfl) (Nat.le_refl _) (Nat.le_refl _) hl.1 w1 S rfl (fun H1 locs1 w1 hz hk S => ?_)
  have w2 : ctH (lB2 l D cy s.heap.size aK aV false) 21 Mm H1 := ⟨w2.1.kept (fun k x hx => by
      have hlt := (w2.1 k x hx).lt
      have hl2 : k < 21 := by
        have := (List.getElem?_eq_some_iff.mp hx).1
        simpa [ctW] using this
      rw [ctW_at hl2] at hx
      cases hx
      exact hk _ hlt (fun z => by have := z.2; simp only [bHi, bLo] at this; omega)), w2.2.1, w2.2.2.1, fun h => by cases h⟩
  refine lv_aload_n hx hb dL_law_540 rfl (lv_at hl 2 rfl) ?_
  refine lw_arg (pc := 541) (t := 1) C0 (by decide) dL_law_541 dL_law_542 dL_law_543 dL_law_544 dL_law_545 hl (by omega) hL S ?_
  refine lw_call (B := lB2 l D cy s.heap.size aK aV false) (pc := 546) (As := [.int (xs (i + 1))]) (rest := [.int v]) (ci := 7) C0 K2 (Nat.le_add_right _ _) dL_law_546 lk_RL_55 rfl (by decide) (ctX7_deal o2 g2) rfl (by decide) rfl (by decide) (Nat.le_of_ble_eq_true rfl) (Nat.le_refl _) (Nat.le_refl _) hl.1 w2 S rfl (fun H2 locs2 w2 hz2 hk2 S => ?_)
  have w1 : ctH (lB1 l D cy s.heap.size aK aV false) 149 Mc2 H2 := ⟨w1.1.kept (fun k x hx => by
      have hlt := (w1.1 k x hx).lt
      have hl2 : k < 149 := by
        have := (List.getElem?_eq_some_iff.mp hx).1
        simpa [ctW] using this
      rw [ctW_at hl2] at hx
      cases hx
      exact hk2 _ hlt (fun z => by have := z.1; simp only [bHi, bLo] at this; omega)), w1.2.1, w1.2.2.1, fun h => by cases h⟩
  refine lv_icmp_eq (tgt := 1361) hx hb dL_law_549 (by decide) (fun _ => next Mc2 Mm2 H2 locs2 g3 w1 w2 S) (fun z => absurd rfl z)
set_option maxHeartbeats 4000000 in
set_option maxRecDepth 20000 in
theorem law_case_10 {Sim : ctM → ctM → Prop} {p : Program} {l : Launch} {e : Env} {s : State} {m : MethodId} {below : List Frame} {meth : Method} {c : Code} {b L : Nat} {xs : Nat → Int32} {H : Heap} {locs : List Loc} {ls : Array Slot} {D : va_G} {cy : Nat → ClassId} {aK aV : Nat → Nat} (hL : L ≤ 384) (C0 : lw_At p s m meth c b L xs) (K1 : ctK (lB1 l D cy s.heap.size aK aV false) s) (K2 : ctK (lB2 l D cy s.heap.size aK aV false) s) (hop : opS1 Sim fX6_seed fX7_seed) {Mc Mm : ctM} (hs : Sim Mc Mm) {i : Nat} (hi : i + 6 ≤ L) (hl : lv_has ls 4 [(0, .ref b), (1, .ref s.heap.size), (2, .ref (s.heap.size + 149)), (3, .int (nI i))]) (w1 : ctH (lB1 l D cy s.heap.size aK aV false) 149 Mc H) (w2 : ctH (lB2 l D cy s.heap.size aK aV false) 21 Mm H) (S : va_S (fun q : Nat => s.heap.size ≤ q) s.heap H locs)
    (next : ∀ (Mc2 Mm2 : ctM) (H1 : Heap) (locs1 : List Loc), Sim Mc2 Mm2 → ctH (lB1 l D cy s.heap.size aK aV false) 149 Mc2 H1 → ctH (lB2 l D cy s.heap.size aK aV false) 21 Mm2 H1 → va_S (fun q : Nat => s.heap.size ≤ q) s.heap H1 locs1 → W p l e room_1 s m #[Value.ref b] below meth c H1 locs1 600000 7302250 (lw_Z below #[Value.ref b] s) (F0 m 1361 ls [])) : W p l e room_1 s m #[Value.ref b] below meth c H locs 600000 7302250 (lw_Z below #[Value.ref b] s) (F0 m 554 ls []) := by
  obtain ⟨v, Mc2, Mm2, g1, g2, g3⟩ := hop Mc Mm hs (xs (i + 1))
  obtain ⟨hx, hb, hr, hml, hown, hts, hX, hbl, hlocks, hgv⟩ := id C0
  have o1 : ctOk (lB1 l D cy s.heap.size aK aV false) kdC lnC 149 := fun a ha => ⟨rfl, rfl, kdC_lt a ha⟩
  have o2 : ctOk (lB2 l D cy s.heap.size aK aV false) kdM lnM 21 := fun a ha => ⟨rfl, rfl, kdM_lt a ha⟩
  refine lv_aload_n hx hb dL_law_554 rfl (lv_at hl 1 rfl) ?_
  refine lw_arg (pc := 555) (t := 1) C0 (by decide) dL_law_555 dL_law_556 dL_law_557 dL_law_558 dL_law_559 hl (by omega) hL S ?_
  refine lw_call (B := lB1 l D cy s.heap.size aK aV false) (pc := 560) (As := [.int (xs (i + 1))]) (rest := []) (ci := 6) C0 K1 (Nat.le_refl _) dL_law_560 lk_RL_56 rfl (by decide) (ctX6_seed o1 g1) rfl (by decide) rfl (by decide) (Nat.le_of_ble_eq_true rfl) (Nat.le_refl _) (Nat.le_refl _) hl.1 w1 S rfl (fun H1 locs1 w1 hz hk S => ?_)
  have w2 : ctH (lB2 l D cy s.heap.size aK aV false) 21 Mm H1 := ⟨w2.1.kept (fun k x hx => by
      have hlt := (w2.1 k x hx).lt
      have hl2 : k < 21 := by
        have := (List.getElem?_eq_some_iff.mp hx).1
        simpa [ctW] using this
      rw [ctW_at hl2] at hx
      cases hx
      exact hk _ hlt (fun z => by have := z.2; simp only [bHi, bLo] at this; omega)), w2.2.1, w2.2.2.1, fun h => by cases h⟩
  refine lv_aload_n hx hb dL_law_563 rfl (lv_at hl 2 rfl) ?_
  refine lw_arg (pc := 564) (t := 1) C0 (by decide) dL_law_564 dL_law_565 dL_law_566 dL_law_567 dL_law_568 hl (by omega) hL S ?_
  refine lw_call (B := lB2 l D cy s.heap.size aK aV false) (pc := 569) (As := [.int (xs (i + 1))]) (rest := [.int v]) (ci := 7) C0 K2 (Nat.le_add_right _ _) dL_law_569 lk_RL_59 rfl (by decide) (ctX7_seed o2 g2) rfl (by decide) rfl (by decide) (Nat.le_of_ble_eq_true rfl) (Nat.le_refl _) (Nat.le_refl _) hl.1 w2 S rfl (fun H2 locs2 w2 hz2 hk2 S => ?_)
  have w1 : ctH (lB1 l D cy s.heap.size aK aV false) 149 Mc2 H2 := ⟨w1.1.kept (fun k x hx => by
      have hlt := (w1.1 k x hx).lt
      have hl2 : k < 149 := by
        have := (List.getElem?_eq_some_iff.mp hx).1
        simpa [ctW] using this
      rw [ctW_at hl2] at hx
      cases hx
      exact hk2 _ hlt (fun z => by have := z.1; simp only [bHi, bLo] at this; omega)), w1.2.1, w1.2.2.1, fun h => by cases h⟩
  refine lv_icmp_eq (tgt := 1361) hx hb dL_law_572 (by decide) (fun _ => next Mc2 Mm2 H2 locs2 g3 w1 w2 S) (fun z => absurd rfl z)
set_option maxHeartbeats 4000000 in
set_option maxRecDepth 20000 in
theorem law_case_11 {Sim : ctM → ctM → Prop} {p : Program} {l : Launch} {e : Env} {s : State} {m : MethodId} {below : List Frame} {meth : Method} {c : Code} {b L : Nat} {xs : Nat → Int32} {H : Heap} {locs : List Loc} {ls : Array Slot} {D : va_G} {cy : Nat → ClassId} {aK aV : Nat → Nat} (hL : L ≤ 384) (C0 : lw_At p s m meth c b L xs) (K1 : ctK (lB1 l D cy s.heap.size aK aV false) s) (K2 : ctK (lB2 l D cy s.heap.size aK aV false) s) (hop : opS1 Sim fX6_run fX7_run) {Mc Mm : ctM} (hs : Sim Mc Mm) {i : Nat} (hi : i + 6 ≤ L) (hl : lv_has ls 4 [(0, .ref b), (1, .ref s.heap.size), (2, .ref (s.heap.size + 149)), (3, .int (nI i))]) (w1 : ctH (lB1 l D cy s.heap.size aK aV false) 149 Mc H) (w2 : ctH (lB2 l D cy s.heap.size aK aV false) 21 Mm H) (S : va_S (fun q : Nat => s.heap.size ≤ q) s.heap H locs)
    (next : ∀ (Mc2 Mm2 : ctM) (H1 : Heap) (locs1 : List Loc), Sim Mc2 Mm2 → ctH (lB1 l D cy s.heap.size aK aV false) 149 Mc2 H1 → ctH (lB2 l D cy s.heap.size aK aV false) 21 Mm2 H1 → va_S (fun q : Nat => s.heap.size ≤ q) s.heap H1 locs1 → W p l e room_1 s m #[Value.ref b] below meth c H1 locs1 600000 7302250 (lw_Z below #[Value.ref b] s) (F0 m 1361 ls [])) : W p l e room_1 s m #[Value.ref b] below meth c H locs 600000 7302250 (lw_Z below #[Value.ref b] s) (F0 m 577 ls []) := by
  obtain ⟨v, Mc2, Mm2, g1, g2, g3⟩ := hop Mc Mm hs (xs (i + 1))
  obtain ⟨hx, hb, hr, hml, hown, hts, hX, hbl, hlocks, hgv⟩ := id C0
  have o1 : ctOk (lB1 l D cy s.heap.size aK aV false) kdC lnC 149 := fun a ha => ⟨rfl, rfl, kdC_lt a ha⟩
  have o2 : ctOk (lB2 l D cy s.heap.size aK aV false) kdM lnM 21 := fun a ha => ⟨rfl, rfl, kdM_lt a ha⟩
  refine lv_aload_n hx hb dL_law_577 rfl (lv_at hl 1 rfl) ?_
  refine lw_arg (pc := 578) (t := 1) C0 (by decide) dL_law_578 dL_law_579 dL_law_580 dL_law_581 dL_law_582 hl (by omega) hL S ?_
  refine lw_call (B := lB1 l D cy s.heap.size aK aV false) (pc := 583) (As := [.int (xs (i + 1))]) (rest := []) (ci := 6) C0 K1 (Nat.le_refl _) dL_law_583 lk_RL_60 rfl (by decide) (ctX6_run o1 g1) rfl (by decide) rfl (by decide) (Nat.le_of_ble_eq_true rfl) (Nat.le_refl _) (Nat.le_refl _) hl.1 w1 S rfl (fun H1 locs1 w1 hz hk S => ?_)
  have w2 : ctH (lB2 l D cy s.heap.size aK aV false) 21 Mm H1 := ⟨w2.1.kept (fun k x hx => by
      have hlt := (w2.1 k x hx).lt
      have hl2 : k < 21 := by
        have := (List.getElem?_eq_some_iff.mp hx).1
        simpa [ctW] using this
      rw [ctW_at hl2] at hx
      cases hx
      exact hk _ hlt (fun z => by have := z.2; simp only [bHi, bLo] at this; omega)), w2.2.1, w2.2.2.1, fun h => by cases h⟩
  refine lv_aload_n hx hb dL_law_586 rfl (lv_at hl 2 rfl) ?_
  refine lw_arg (pc := 587) (t := 1) C0 (by decide) dL_law_587 dL_law_588 dL_law_589 dL_law_590 dL_law_591 hl (by omega) hL S ?_
  refine lw_call (B := lB2 l D cy s.heap.size aK aV false) (pc := 592) (As := [.int (xs (i + 1))]) (rest := [.int v]) (ci := 7) C0 K2 (Nat.le_add_right _ _) dL_law_592 lk_RL_63 rfl (by decide) (ctX7_run o2 g2) rfl (by decide) rfl (by decide) (Nat.le_of_ble_eq_true rfl) (Nat.le_refl _) (Nat.le_refl _) hl.1 w2 S rfl (fun H2 locs2 w2 hz2 hk2 S => ?_)
  have w1 : ctH (lB1 l D cy s.heap.size aK aV false) 149 Mc2 H2 := ⟨w1.1.kept (fun k x hx => by
      have hlt := (w1.1 k x hx).lt
      have hl2 : k < 149 := by
        have := (List.getElem?_eq_some_iff.mp hx).1
        simpa [ctW] using this
      rw [ctW_at hl2] at hx
      cases hx
      exact hk2 _ hlt (fun z => by have := z.1; simp only [bHi, bLo] at this; omega)), w1.2.1, w1.2.2.1, fun h => by cases h⟩
  refine lv_icmp_eq (tgt := 1361) hx hb dL_law_595 (by decide) (fun _ => next Mc2 Mm2 H2 locs2 g3 w1 w2 S) (fun z => absurd rfl z)
set_option maxHeartbeats 4000000 in
set_option maxRecDepth 20000 in
theorem law_case_12 {Sim : ctM → ctM → Prop} {p : Program} {l : Launch} {e : Env} {s : State} {m : MethodId} {below : List Frame} {meth : Method} {c : Code} {b L : Nat} {xs : Nat → Int32} {H : Heap} {locs : List Loc} {ls : Array Slot} {D : va_G} {cy : Nat → ClassId} {aK aV : Nat → Nat} (hL : L ≤ 384) (C0 : lw_At p s m meth c b L xs) (K1 : ctK (lB1 l D cy s.heap.size aK aV false) s) (K2 : ctK (lB2 l D cy s.heap.size aK aV false) s) (hop : opS0 Sim fX6_spread fX7_spread) {Mc Mm : ctM} (hs : Sim Mc Mm) {i : Nat} (hi : i + 6 ≤ L) (hl : lv_has ls 4 [(0, .ref b), (1, .ref s.heap.size), (2, .ref (s.heap.size + 149)), (3, .int (nI i))]) (w1 : ctH (lB1 l D cy s.heap.size aK aV false) 149 Mc H) (w2 : ctH (lB2 l D cy s.heap.size aK aV false) 21 Mm H) (S : va_S (fun q : Nat => s.heap.size ≤ q) s.heap H locs)
    (next : ∀ (Mc2 Mm2 : ctM) (H1 : Heap) (locs1 : List Loc), Sim Mc2 Mm2 → ctH (lB1 l D cy s.heap.size aK aV false) 149 Mc2 H1 → ctH (lB2 l D cy s.heap.size aK aV false) 21 Mm2 H1 → va_S (fun q : Nat => s.heap.size ≤ q) s.heap H1 locs1 → W p l e room_1 s m #[Value.ref b] below meth c H1 locs1 600000 7302250 (lw_Z below #[Value.ref b] s) (F0 m 1361 ls [])) : W p l e room_1 s m #[Value.ref b] below meth c H locs 600000 7302250 (lw_Z below #[Value.ref b] s) (F0 m 600 ls []) := by
  obtain ⟨v, Mc2, Mm2, g1, g2, g3⟩ := hop Mc Mm hs 
  obtain ⟨hx, hb, hr, hml, hown, hts, hX, hbl, hlocks, hgv⟩ := id C0
  have o1 : ctOk (lB1 l D cy s.heap.size aK aV false) kdC lnC 149 := fun a ha => ⟨rfl, rfl, kdC_lt a ha⟩
  have o2 : ctOk (lB2 l D cy s.heap.size aK aV false) kdM lnM 21 := fun a ha => ⟨rfl, rfl, kdM_lt a ha⟩
  refine lv_aload_n hx hb dL_law_600 rfl (lv_at hl 1 rfl) ?_
  refine lw_call (B := lB1 l D cy s.heap.size aK aV false) (pc := 601) (As := []) (rest := []) (ci := 6) C0 K1 (Nat.le_refl _) dL_law_601 lk_RL_64 rfl (by decide) (ctX6_spread o1 g1) rfl (by decide) rfl (by decide) (Nat.le_of_ble_eq_true rfl) (Nat.le_refl _) (Nat.le_refl _) hl.1 w1 S rfl (fun H1 locs1 w1 hz hk S => ?_)
  have w2 : ctH (lB2 l D cy s.heap.size aK aV false) 21 Mm H1 := ⟨w2.1.kept (fun k x hx => by
      have hlt := (w2.1 k x hx).lt
      have hl2 : k < 21 := by
        have := (List.getElem?_eq_some_iff.mp hx).1
        simpa [ctW] using this
      rw [ctW_at hl2] at hx
      cases hx
      exact hk _ hlt (fun z => by have := z.2; simp only [bHi, bLo] at this; omega)), w2.2.1, w2.2.2.1, fun h => by cases h⟩
  refine lv_aload_n hx hb dL_law_604 rfl (lv_at hl 2 rfl) ?_
  refine lw_call (B := lB2 l D cy s.heap.size aK aV false) (pc := 605) (As := []) (rest := [.int v]) (ci := 7) C0 K2 (Nat.le_add_right _ _) dL_law_605 lk_RL_68 rfl (by decide) (ctX7_spread o2 g2) rfl (by decide) rfl (by decide) (Nat.le_of_ble_eq_true rfl) (Nat.le_refl _) (Nat.le_refl _) hl.1 w2 S rfl (fun H2 locs2 w2 hz2 hk2 S => ?_)
  have w1 : ctH (lB1 l D cy s.heap.size aK aV false) 149 Mc2 H2 := ⟨w1.1.kept (fun k x hx => by
      have hlt := (w1.1 k x hx).lt
      have hl2 : k < 149 := by
        have := (List.getElem?_eq_some_iff.mp hx).1
        simpa [ctW] using this
      rw [ctW_at hl2] at hx
      cases hx
      exact hk2 _ hlt (fun z => by have := z.1; simp only [bHi, bLo] at this; omega)), w1.2.1, w1.2.2.1, fun h => by cases h⟩
  refine lv_icmp_eq (tgt := 1361) hx hb dL_law_608 (by decide) (fun _ => next Mc2 Mm2 H2 locs2 g3 w1 w2 S) (fun z => absurd rfl z)
set_option maxHeartbeats 4000000 in
set_option maxRecDepth 20000 in
theorem law_case_13 {Sim : ctM → ctM → Prop} {p : Program} {l : Launch} {e : Env} {s : State} {m : MethodId} {below : List Frame} {meth : Method} {c : Code} {b L : Nat} {xs : Nat → Int32} {H : Heap} {locs : List Loc} {ls : Array Slot} {D : va_G} {cy : Nat → ClassId} {aK aV : Nat → Nat} (hL : L ≤ 384) (C0 : lw_At p s m meth c b L xs) (K1 : ctK (lB1 l D cy s.heap.size aK aV false) s) (K2 : ctK (lB2 l D cy s.heap.size aK aV false) s) (hop : opS1 Sim fX6_groups fX7_groups) {Mc Mm : ctM} (hs : Sim Mc Mm) {i : Nat} (hi : i + 6 ≤ L) (hl : lv_has ls 4 [(0, .ref b), (1, .ref s.heap.size), (2, .ref (s.heap.size + 149)), (3, .int (nI i))]) (w1 : ctH (lB1 l D cy s.heap.size aK aV false) 149 Mc H) (w2 : ctH (lB2 l D cy s.heap.size aK aV false) 21 Mm H) (S : va_S (fun q : Nat => s.heap.size ≤ q) s.heap H locs)
    (next : ∀ (Mc2 Mm2 : ctM) (H1 : Heap) (locs1 : List Loc), Sim Mc2 Mm2 → ctH (lB1 l D cy s.heap.size aK aV false) 149 Mc2 H1 → ctH (lB2 l D cy s.heap.size aK aV false) 21 Mm2 H1 → va_S (fun q : Nat => s.heap.size ≤ q) s.heap H1 locs1 → W p l e room_1 s m #[Value.ref b] below meth c H1 locs1 600000 7302250 (lw_Z below #[Value.ref b] s) (F0 m 1361 ls [])) : W p l e room_1 s m #[Value.ref b] below meth c H locs 600000 7302250 (lw_Z below #[Value.ref b] s) (F0 m 613 ls []) := by
  obtain ⟨v, Mc2, Mm2, g1, g2, g3⟩ := hop Mc Mm hs (xs (i + 1))
  obtain ⟨hx, hb, hr, hml, hown, hts, hX, hbl, hlocks, hgv⟩ := id C0
  have o1 : ctOk (lB1 l D cy s.heap.size aK aV false) kdC lnC 149 := fun a ha => ⟨rfl, rfl, kdC_lt a ha⟩
  have o2 : ctOk (lB2 l D cy s.heap.size aK aV false) kdM lnM 21 := fun a ha => ⟨rfl, rfl, kdM_lt a ha⟩
  refine lv_aload_n hx hb dL_law_613 rfl (lv_at hl 1 rfl) ?_
  refine lw_arg (pc := 614) (t := 1) C0 (by decide) dL_law_614 dL_law_615 dL_law_616 dL_law_617 dL_law_618 hl (by omega) hL S ?_
  refine lw_call (B := lB1 l D cy s.heap.size aK aV false) (pc := 619) (As := [.int (xs (i + 1))]) (rest := []) (ci := 6) C0 K1 (Nat.le_refl _) dL_law_619 lk_RL_69 rfl (by decide) (ctX6_groups o1 g1) rfl (by decide) rfl (by decide) (Nat.le_of_ble_eq_true rfl) (Nat.le_refl _) (Nat.le_refl _) hl.1 w1 S rfl (fun H1 locs1 w1 hz hk S => ?_)
  have w2 : ctH (lB2 l D cy s.heap.size aK aV false) 21 Mm H1 := ⟨w2.1.kept (fun k x hx => by
      have hlt := (w2.1 k x hx).lt
      have hl2 : k < 21 := by
        have := (List.getElem?_eq_some_iff.mp hx).1
        simpa [ctW] using this
      rw [ctW_at hl2] at hx
      cases hx
      exact hk _ hlt (fun z => by have := z.2; simp only [bHi, bLo] at this; omega)), w2.2.1, w2.2.2.1, fun h => by cases h⟩
  refine lv_aload_n hx hb dL_law_622 rfl (lv_at hl 2 rfl) ?_
  refine lw_arg (pc := 623) (t := 1) C0 (by decide) dL_law_623 dL_law_624 dL_law_625 dL_law_626 dL_law_627 hl (by omega) hL S ?_
  refine lw_call (B := lB2 l D cy s.heap.size aK aV false) (pc := 628) (As := [.int (xs (i + 1))]) (rest := [.int v]) (ci := 7) C0 K2 (Nat.le_add_right _ _) dL_law_628 lk_RL_72 rfl (by decide) (ctX7_groups o2 g2) rfl (by decide) rfl (by decide) (Nat.le_of_ble_eq_true rfl) (Nat.le_refl _) (Nat.le_refl _) hl.1 w2 S rfl (fun H2 locs2 w2 hz2 hk2 S => ?_)
  have w1 : ctH (lB1 l D cy s.heap.size aK aV false) 149 Mc2 H2 := ⟨w1.1.kept (fun k x hx => by
      have hlt := (w1.1 k x hx).lt
      have hl2 : k < 149 := by
        have := (List.getElem?_eq_some_iff.mp hx).1
        simpa [ctW] using this
      rw [ctW_at hl2] at hx
      cases hx
      exact hk2 _ hlt (fun z => by have := z.1; simp only [bHi, bLo] at this; omega)), w1.2.1, w1.2.2.1, fun h => by cases h⟩
  refine lv_icmp_eq (tgt := 1361) hx hb dL_law_631 (by decide) (fun _ => next Mc2 Mm2 H2 locs2 g3 w1 w2 S) (fun z => absurd rfl z)
set_option maxHeartbeats 4000000 in
set_option maxRecDepth 20000 in
theorem law_case_14 {Sim : ctM → ctM → Prop} {p : Program} {l : Launch} {e : Env} {s : State} {m : MethodId} {below : List Frame} {meth : Method} {c : Code} {b L : Nat} {xs : Nat → Int32} {H : Heap} {locs : List Loc} {ls : Array Slot} {D : va_G} {cy : Nat → ClassId} {aK aV : Nat → Nat} (hL : L ≤ 384) (C0 : lw_At p s m meth c b L xs) (K1 : ctK (lB1 l D cy s.heap.size aK aV false) s) (K2 : ctK (lB2 l D cy s.heap.size aK aV false) s) (hop : opS1 Sim fX6_soon fX7_soon) {Mc Mm : ctM} (hs : Sim Mc Mm) {i : Nat} (hi : i + 6 ≤ L) (hl : lv_has ls 4 [(0, .ref b), (1, .ref s.heap.size), (2, .ref (s.heap.size + 149)), (3, .int (nI i))]) (w1 : ctH (lB1 l D cy s.heap.size aK aV false) 149 Mc H) (w2 : ctH (lB2 l D cy s.heap.size aK aV false) 21 Mm H) (S : va_S (fun q : Nat => s.heap.size ≤ q) s.heap H locs)
    (next : ∀ (Mc2 Mm2 : ctM) (H1 : Heap) (locs1 : List Loc), Sim Mc2 Mm2 → ctH (lB1 l D cy s.heap.size aK aV false) 149 Mc2 H1 → ctH (lB2 l D cy s.heap.size aK aV false) 21 Mm2 H1 → va_S (fun q : Nat => s.heap.size ≤ q) s.heap H1 locs1 → W p l e room_1 s m #[Value.ref b] below meth c H1 locs1 600000 7302250 (lw_Z below #[Value.ref b] s) (F0 m 1361 ls [])) : W p l e room_1 s m #[Value.ref b] below meth c H locs 600000 7302250 (lw_Z below #[Value.ref b] s) (F0 m 636 ls []) := by
  obtain ⟨v, Mc2, Mm2, g1, g2, g3⟩ := hop Mc Mm hs (xs (i + 1))
  obtain ⟨hx, hb, hr, hml, hown, hts, hX, hbl, hlocks, hgv⟩ := id C0
  have o1 : ctOk (lB1 l D cy s.heap.size aK aV false) kdC lnC 149 := fun a ha => ⟨rfl, rfl, kdC_lt a ha⟩
  have o2 : ctOk (lB2 l D cy s.heap.size aK aV false) kdM lnM 21 := fun a ha => ⟨rfl, rfl, kdM_lt a ha⟩
  refine lv_aload_n hx hb dL_law_636 rfl (lv_at hl 1 rfl) ?_
  refine lw_arg (pc := 637) (t := 1) C0 (by decide) dL_law_637 dL_law_638 dL_law_639 dL_law_640 dL_law_641 hl (by omega) hL S ?_
  refine lw_call (B := lB1 l D cy s.heap.size aK aV false) (pc := 642) (As := [.int (xs (i + 1))]) (rest := []) (ci := 6) C0 K1 (Nat.le_refl _) dL_law_642 lk_RL_73 rfl (by decide) (ctX6_soon o1 g1) rfl (by decide) rfl (by decide) (Nat.le_of_ble_eq_true rfl) (Nat.le_refl _) (Nat.le_refl _) hl.1 w1 S rfl (fun H1 locs1 w1 hz hk S => ?_)
  have w2 : ctH (lB2 l D cy s.heap.size aK aV false) 21 Mm H1 := ⟨w2.1.kept (fun k x hx => by
      have hlt := (w2.1 k x hx).lt
      have hl2 : k < 21 := by
        have := (List.getElem?_eq_some_iff.mp hx).1
        simpa [ctW] using this
      rw [ctW_at hl2] at hx
      cases hx
      exact hk _ hlt (fun z => by have := z.2; simp only [bHi, bLo] at this; omega)), w2.2.1, w2.2.2.1, fun h => by cases h⟩
  refine lv_aload_n hx hb dL_law_645 rfl (lv_at hl 2 rfl) ?_
  refine lw_arg (pc := 646) (t := 1) C0 (by decide) dL_law_646 dL_law_647 dL_law_648 dL_law_649 dL_law_650 hl (by omega) hL S ?_
  refine lw_call (B := lB2 l D cy s.heap.size aK aV false) (pc := 651) (As := [.int (xs (i + 1))]) (rest := [.int v]) (ci := 7) C0 K2 (Nat.le_add_right _ _) dL_law_651 lk_RL_76 rfl (by decide) (ctX7_soon o2 g2) rfl (by decide) rfl (by decide) (Nat.le_of_ble_eq_true rfl) (Nat.le_refl _) (Nat.le_refl _) hl.1 w2 S rfl (fun H2 locs2 w2 hz2 hk2 S => ?_)
  have w1 : ctH (lB1 l D cy s.heap.size aK aV false) 149 Mc2 H2 := ⟨w1.1.kept (fun k x hx => by
      have hlt := (w1.1 k x hx).lt
      have hl2 : k < 149 := by
        have := (List.getElem?_eq_some_iff.mp hx).1
        simpa [ctW] using this
      rw [ctW_at hl2] at hx
      cases hx
      exact hk2 _ hlt (fun z => by have := z.1; simp only [bHi, bLo] at this; omega)), w1.2.1, w1.2.2.1, fun h => by cases h⟩
  refine lv_icmp_eq (tgt := 1361) hx hb dL_law_654 (by decide) (fun _ => next Mc2 Mm2 H2 locs2 g3 w1 w2 S) (fun z => absurd rfl z)
set_option maxHeartbeats 4000000 in
set_option maxRecDepth 20000 in
theorem law_case_15 {Sim : ctM → ctM → Prop} {p : Program} {l : Launch} {e : Env} {s : State} {m : MethodId} {below : List Frame} {meth : Method} {c : Code} {b L : Nat} {xs : Nat → Int32} {H : Heap} {locs : List Loc} {ls : Array Slot} {D : va_G} {cy : Nat → ClassId} {aK aV : Nat → Nat} (hL : L ≤ 384) (C0 : lw_At p s m meth c b L xs) (K1 : ctK (lB1 l D cy s.heap.size aK aV false) s) (K2 : ctK (lB2 l D cy s.heap.size aK aV false) s) (hop : opS0 Sim fX6_period fX7_period) {Mc Mm : ctM} (hs : Sim Mc Mm) {i : Nat} (hi : i + 6 ≤ L) (hl : lv_has ls 4 [(0, .ref b), (1, .ref s.heap.size), (2, .ref (s.heap.size + 149)), (3, .int (nI i))]) (w1 : ctH (lB1 l D cy s.heap.size aK aV false) 149 Mc H) (w2 : ctH (lB2 l D cy s.heap.size aK aV false) 21 Mm H) (S : va_S (fun q : Nat => s.heap.size ≤ q) s.heap H locs)
    (next : ∀ (Mc2 Mm2 : ctM) (H1 : Heap) (locs1 : List Loc), Sim Mc2 Mm2 → ctH (lB1 l D cy s.heap.size aK aV false) 149 Mc2 H1 → ctH (lB2 l D cy s.heap.size aK aV false) 21 Mm2 H1 → va_S (fun q : Nat => s.heap.size ≤ q) s.heap H1 locs1 → W p l e room_1 s m #[Value.ref b] below meth c H1 locs1 600000 7302250 (lw_Z below #[Value.ref b] s) (F0 m 1361 ls [])) : W p l e room_1 s m #[Value.ref b] below meth c H locs 600000 7302250 (lw_Z below #[Value.ref b] s) (F0 m 659 ls []) := by
  obtain ⟨v, Mc2, Mm2, g1, g2, g3⟩ := hop Mc Mm hs 
  obtain ⟨hx, hb, hr, hml, hown, hts, hX, hbl, hlocks, hgv⟩ := id C0
  have o1 : ctOk (lB1 l D cy s.heap.size aK aV false) kdC lnC 149 := fun a ha => ⟨rfl, rfl, kdC_lt a ha⟩
  have o2 : ctOk (lB2 l D cy s.heap.size aK aV false) kdM lnM 21 := fun a ha => ⟨rfl, rfl, kdM_lt a ha⟩
  refine lv_aload_n hx hb dL_law_659 rfl (lv_at hl 1 rfl) ?_
  refine lw_call (B := lB1 l D cy s.heap.size aK aV false) (pc := 660) (As := []) (rest := []) (ci := 6) C0 K1 (Nat.le_refl _) dL_law_660 lk_RL_77 rfl (by decide) (ctX6_period o1 g1) rfl (by decide) rfl (by decide) (Nat.le_of_ble_eq_true rfl) (Nat.le_refl _) (Nat.le_refl _) hl.1 w1 S rfl (fun H1 locs1 w1 hz hk S => ?_)
  have w2 : ctH (lB2 l D cy s.heap.size aK aV false) 21 Mm H1 := ⟨w2.1.kept (fun k x hx => by
      have hlt := (w2.1 k x hx).lt
      have hl2 : k < 21 := by
        have := (List.getElem?_eq_some_iff.mp hx).1
        simpa [ctW] using this
      rw [ctW_at hl2] at hx
      cases hx
      exact hk _ hlt (fun z => by have := z.2; simp only [bHi, bLo] at this; omega)), w2.2.1, w2.2.2.1, fun h => by cases h⟩
  refine lv_aload_n hx hb dL_law_663 rfl (lv_at hl 2 rfl) ?_
  refine lw_call (B := lB2 l D cy s.heap.size aK aV false) (pc := 664) (As := []) (rest := [.int v]) (ci := 7) C0 K2 (Nat.le_add_right _ _) dL_law_664 lk_RL_80 rfl (by decide) (ctX7_period o2 g2) rfl (by decide) rfl (by decide) (Nat.le_of_ble_eq_true rfl) (Nat.le_refl _) (Nat.le_refl _) hl.1 w2 S rfl (fun H2 locs2 w2 hz2 hk2 S => ?_)
  have w1 : ctH (lB1 l D cy s.heap.size aK aV false) 149 Mc2 H2 := ⟨w1.1.kept (fun k x hx => by
      have hlt := (w1.1 k x hx).lt
      have hl2 : k < 149 := by
        have := (List.getElem?_eq_some_iff.mp hx).1
        simpa [ctW] using this
      rw [ctW_at hl2] at hx
      cases hx
      exact hk2 _ hlt (fun z => by have := z.1; simp only [bHi, bLo] at this; omega)), w1.2.1, w1.2.2.1, fun h => by cases h⟩
  refine lv_icmp_eq (tgt := 1361) hx hb dL_law_667 (by decide) (fun _ => next Mc2 Mm2 H2 locs2 g3 w1 w2 S) (fun z => absurd rfl z)
set_option maxHeartbeats 4000000 in
set_option maxRecDepth 20000 in
theorem law_case_16 {Sim : ctM → ctM → Prop} {p : Program} {l : Launch} {e : Env} {s : State} {m : MethodId} {below : List Frame} {meth : Method} {c : Code} {b L : Nat} {xs : Nat → Int32} {H : Heap} {locs : List Loc} {ls : Array Slot} {D : va_G} {cy : Nat → ClassId} {aK aV : Nat → Nat} (hL : L ≤ 384) (C0 : lw_At p s m meth c b L xs) (K1 : ctK (lB1 l D cy s.heap.size aK aV false) s) (K2 : ctK (lB2 l D cy s.heap.size aK aV false) s) (hop : opS2 Sim fX6_film fX7_film) {Mc Mm : ctM} (hs : Sim Mc Mm) {i : Nat} (hi : i + 6 ≤ L) (hl : lv_has ls 4 [(0, .ref b), (1, .ref s.heap.size), (2, .ref (s.heap.size + 149)), (3, .int (nI i))]) (w1 : ctH (lB1 l D cy s.heap.size aK aV false) 149 Mc H) (w2 : ctH (lB2 l D cy s.heap.size aK aV false) 21 Mm H) (S : va_S (fun q : Nat => s.heap.size ≤ q) s.heap H locs)
    (next : ∀ (Mc2 Mm2 : ctM) (H1 : Heap) (locs1 : List Loc), Sim Mc2 Mm2 → ctH (lB1 l D cy s.heap.size aK aV false) 149 Mc2 H1 → ctH (lB2 l D cy s.heap.size aK aV false) 21 Mm2 H1 → va_S (fun q : Nat => s.heap.size ≤ q) s.heap H1 locs1 → W p l e room_1 s m #[Value.ref b] below meth c H1 locs1 600000 7302250 (lw_Z below #[Value.ref b] s) (F0 m 1361 ls [])) : W p l e room_1 s m #[Value.ref b] below meth c H locs 600000 7302250 (lw_Z below #[Value.ref b] s) (F0 m 672 ls []) := by
  obtain ⟨v, Mc2, Mm2, g1, g2, g3⟩ := hop Mc Mm hs (xs (i + 1)) (xs (i + 2))
  obtain ⟨hx, hb, hr, hml, hown, hts, hX, hbl, hlocks, hgv⟩ := id C0
  have o1 : ctOk (lB1 l D cy s.heap.size aK aV false) kdC lnC 149 := fun a ha => ⟨rfl, rfl, kdC_lt a ha⟩
  have o2 : ctOk (lB2 l D cy s.heap.size aK aV false) kdM lnM 21 := fun a ha => ⟨rfl, rfl, kdM_lt a ha⟩
  refine lv_aload_n hx hb dL_law_672 rfl (lv_at hl 1 rfl) ?_
  refine lw_arg (pc := 673) (t := 1) C0 (by decide) dL_law_673 dL_law_674 dL_law_675 dL_law_676 dL_law_677 hl (by omega) hL S ?_
  refine lw_arg (pc := 678) (t := 2) C0 (by decide) dL_law_678 dL_law_679 dL_law_680 dL_law_681 dL_law_682 hl (by omega) hL S ?_
  refine lw_call (B := lB1 l D cy s.heap.size aK aV false) (pc := 683) (As := [.int (xs (i + 1)), .int (xs (i + 2))]) (rest := []) (ci := 6) C0 K1 (Nat.le_refl _) dL_law_683 lk_RL_81 rfl (by decide) (ctX6_film o1 g1) rfl (by decide) rfl (by decide) (Nat.le_of_ble_eq_true rfl) (Nat.le_refl _) (Nat.le_refl _) hl.1 w1 S rfl (fun H1 locs1 w1 hz hk S => ?_)
  have w2 : ctH (lB2 l D cy s.heap.size aK aV false) 21 Mm H1 := ⟨w2.1.kept (fun k x hx => by
      have hlt := (w2.1 k x hx).lt
      have hl2 : k < 21 := by
        have := (List.getElem?_eq_some_iff.mp hx).1
        simpa [ctW] using this
      rw [ctW_at hl2] at hx
      cases hx
      exact hk _ hlt (fun z => by have := z.2; simp only [bHi, bLo] at this; omega)), w2.2.1, w2.2.2.1, fun h => by cases h⟩
  refine lv_aload_n hx hb dL_law_686 rfl (lv_at hl 2 rfl) ?_
  refine lw_arg (pc := 687) (t := 1) C0 (by decide) dL_law_687 dL_law_688 dL_law_689 dL_law_690 dL_law_691 hl (by omega) hL S ?_
  refine lw_arg (pc := 692) (t := 2) C0 (by decide) dL_law_692 dL_law_693 dL_law_694 dL_law_695 dL_law_696 hl (by omega) hL S ?_
  refine lw_call (B := lB2 l D cy s.heap.size aK aV false) (pc := 697) (As := [.int (xs (i + 1)), .int (xs (i + 2))]) (rest := [.int v]) (ci := 7) C0 K2 (Nat.le_add_right _ _) dL_law_697 lk_RL_84 rfl (by decide) (ctX7_film o2 g2) rfl (by decide) rfl (by decide) (Nat.le_of_ble_eq_true rfl) (Nat.le_refl _) (Nat.le_refl _) hl.1 w2 S rfl (fun H2 locs2 w2 hz2 hk2 S => ?_)
  have w1 : ctH (lB1 l D cy s.heap.size aK aV false) 149 Mc2 H2 := ⟨w1.1.kept (fun k x hx => by
      have hlt := (w1.1 k x hx).lt
      have hl2 : k < 149 := by
        have := (List.getElem?_eq_some_iff.mp hx).1
        simpa [ctW] using this
      rw [ctW_at hl2] at hx
      cases hx
      exact hk2 _ hlt (fun z => by have := z.1; simp only [bHi, bLo] at this; omega)), w1.2.1, w1.2.2.1, fun h => by cases h⟩
  refine lv_icmp_eq (tgt := 1361) hx hb dL_law_700 (by decide) (fun _ => next Mc2 Mm2 H2 locs2 g3 w1 w2 S) (fun z => absurd rfl z)
set_option maxHeartbeats 4000000 in
set_option maxRecDepth 20000 in
theorem law_case_17 {Sim : ctM → ctM → Prop} {p : Program} {l : Launch} {e : Env} {s : State} {m : MethodId} {below : List Frame} {meth : Method} {c : Code} {b L : Nat} {xs : Nat → Int32} {H : Heap} {locs : List Loc} {ls : Array Slot} {D : va_G} {cy : Nat → ClassId} {aK aV : Nat → Nat} (hL : L ≤ 384) (C0 : lw_At p s m meth c b L xs) (K1 : ctK (lB1 l D cy s.heap.size aK aV false) s) (K2 : ctK (lB2 l D cy s.heap.size aK aV false) s) (hop : opS1 Sim fX6_basin fX7_basin) {Mc Mm : ctM} (hs : Sim Mc Mm) {i : Nat} (hi : i + 6 ≤ L) (hl : lv_has ls 4 [(0, .ref b), (1, .ref s.heap.size), (2, .ref (s.heap.size + 149)), (3, .int (nI i))]) (w1 : ctH (lB1 l D cy s.heap.size aK aV false) 149 Mc H) (w2 : ctH (lB2 l D cy s.heap.size aK aV false) 21 Mm H) (S : va_S (fun q : Nat => s.heap.size ≤ q) s.heap H locs)
    (next : ∀ (Mc2 Mm2 : ctM) (H1 : Heap) (locs1 : List Loc), Sim Mc2 Mm2 → ctH (lB1 l D cy s.heap.size aK aV false) 149 Mc2 H1 → ctH (lB2 l D cy s.heap.size aK aV false) 21 Mm2 H1 → va_S (fun q : Nat => s.heap.size ≤ q) s.heap H1 locs1 → W p l e room_1 s m #[Value.ref b] below meth c H1 locs1 600000 7302250 (lw_Z below #[Value.ref b] s) (F0 m 1361 ls [])) : W p l e room_1 s m #[Value.ref b] below meth c H locs 600000 7302250 (lw_Z below #[Value.ref b] s) (F0 m 705 ls []) := by
  obtain ⟨v, Mc2, Mm2, g1, g2, g3⟩ := hop Mc Mm hs (xs (i + 1))
  obtain ⟨hx, hb, hr, hml, hown, hts, hX, hbl, hlocks, hgv⟩ := id C0
  have o1 : ctOk (lB1 l D cy s.heap.size aK aV false) kdC lnC 149 := fun a ha => ⟨rfl, rfl, kdC_lt a ha⟩
  have o2 : ctOk (lB2 l D cy s.heap.size aK aV false) kdM lnM 21 := fun a ha => ⟨rfl, rfl, kdM_lt a ha⟩
  refine lv_aload_n hx hb dL_law_705 rfl (lv_at hl 1 rfl) ?_
  refine lw_arg (pc := 706) (t := 1) C0 (by decide) dL_law_706 dL_law_707 dL_law_708 dL_law_709 dL_law_710 hl (by omega) hL S ?_
  refine lw_call (B := lB1 l D cy s.heap.size aK aV false) (pc := 711) (As := [.int (xs (i + 1))]) (rest := []) (ci := 6) C0 K1 (Nat.le_refl _) dL_law_711 lk_RL_85 rfl (by decide) (ctX6_basin o1 g1) rfl (by decide) rfl (by decide) (Nat.le_of_ble_eq_true rfl) (Nat.le_refl _) (Nat.le_refl _) hl.1 w1 S rfl (fun H1 locs1 w1 hz hk S => ?_)
  have w2 : ctH (lB2 l D cy s.heap.size aK aV false) 21 Mm H1 := ⟨w2.1.kept (fun k x hx => by
      have hlt := (w2.1 k x hx).lt
      have hl2 : k < 21 := by
        have := (List.getElem?_eq_some_iff.mp hx).1
        simpa [ctW] using this
      rw [ctW_at hl2] at hx
      cases hx
      exact hk _ hlt (fun z => by have := z.2; simp only [bHi, bLo] at this; omega)), w2.2.1, w2.2.2.1, fun h => by cases h⟩
  refine lv_aload_n hx hb dL_law_714 rfl (lv_at hl 2 rfl) ?_
  refine lw_arg (pc := 715) (t := 1) C0 (by decide) dL_law_715 dL_law_716 dL_law_717 dL_law_718 dL_law_719 hl (by omega) hL S ?_
  refine lw_call (B := lB2 l D cy s.heap.size aK aV false) (pc := 720) (As := [.int (xs (i + 1))]) (rest := [.int v]) (ci := 7) C0 K2 (Nat.le_add_right _ _) dL_law_720 lk_RL_88 rfl (by decide) (ctX7_basin o2 g2) rfl (by decide) rfl (by decide) (Nat.le_of_ble_eq_true rfl) (Nat.le_refl _) (Nat.le_refl _) hl.1 w2 S rfl (fun H2 locs2 w2 hz2 hk2 S => ?_)
  have w1 : ctH (lB1 l D cy s.heap.size aK aV false) 149 Mc2 H2 := ⟨w1.1.kept (fun k x hx => by
      have hlt := (w1.1 k x hx).lt
      have hl2 : k < 149 := by
        have := (List.getElem?_eq_some_iff.mp hx).1
        simpa [ctW] using this
      rw [ctW_at hl2] at hx
      cases hx
      exact hk2 _ hlt (fun z => by have := z.1; simp only [bHi, bLo] at this; omega)), w1.2.1, w1.2.2.1, fun h => by cases h⟩
  refine lv_icmp_eq (tgt := 1361) hx hb dL_law_723 (by decide) (fun _ => next Mc2 Mm2 H2 locs2 g3 w1 w2 S) (fun z => absurd rfl z)
set_option maxHeartbeats 4000000 in
set_option maxRecDepth 20000 in
theorem law_case_18 {Sim : ctM → ctM → Prop} {p : Program} {l : Launch} {e : Env} {s : State} {m : MethodId} {below : List Frame} {meth : Method} {c : Code} {b L : Nat} {xs : Nat → Int32} {H : Heap} {locs : List Loc} {ls : Array Slot} {D : va_G} {cy : Nat → ClassId} {aK aV : Nat → Nat} (hL : L ≤ 384) (C0 : lw_At p s m meth c b L xs) (K1 : ctK (lB1 l D cy s.heap.size aK aV false) s) (K2 : ctK (lB2 l D cy s.heap.size aK aV false) s) (hop : opS2 Sim fX6_quiet fX7_quiet) {Mc Mm : ctM} (hs : Sim Mc Mm) {i : Nat} (hi : i + 6 ≤ L) (hl : lv_has ls 4 [(0, .ref b), (1, .ref s.heap.size), (2, .ref (s.heap.size + 149)), (3, .int (nI i))]) (w1 : ctH (lB1 l D cy s.heap.size aK aV false) 149 Mc H) (w2 : ctH (lB2 l D cy s.heap.size aK aV false) 21 Mm H) (S : va_S (fun q : Nat => s.heap.size ≤ q) s.heap H locs)
    (next : ∀ (Mc2 Mm2 : ctM) (H1 : Heap) (locs1 : List Loc), Sim Mc2 Mm2 → ctH (lB1 l D cy s.heap.size aK aV false) 149 Mc2 H1 → ctH (lB2 l D cy s.heap.size aK aV false) 21 Mm2 H1 → va_S (fun q : Nat => s.heap.size ≤ q) s.heap H1 locs1 → W p l e room_1 s m #[Value.ref b] below meth c H1 locs1 600000 7302250 (lw_Z below #[Value.ref b] s) (F0 m 1361 ls [])) : W p l e room_1 s m #[Value.ref b] below meth c H locs 600000 7302250 (lw_Z below #[Value.ref b] s) (F0 m 728 ls []) := by
  obtain ⟨v, Mc2, Mm2, g1, g2, g3⟩ := hop Mc Mm hs (xs (i + 1)) (xs (i + 2))
  obtain ⟨hx, hb, hr, hml, hown, hts, hX, hbl, hlocks, hgv⟩ := id C0
  have o1 : ctOk (lB1 l D cy s.heap.size aK aV false) kdC lnC 149 := fun a ha => ⟨rfl, rfl, kdC_lt a ha⟩
  have o2 : ctOk (lB2 l D cy s.heap.size aK aV false) kdM lnM 21 := fun a ha => ⟨rfl, rfl, kdM_lt a ha⟩
  refine lv_aload_n hx hb dL_law_728 rfl (lv_at hl 1 rfl) ?_
  refine lw_arg (pc := 729) (t := 1) C0 (by decide) dL_law_729 dL_law_730 dL_law_731 dL_law_732 dL_law_733 hl (by omega) hL S ?_
  refine lw_arg (pc := 734) (t := 2) C0 (by decide) dL_law_734 dL_law_735 dL_law_736 dL_law_737 dL_law_738 hl (by omega) hL S ?_
  refine lw_call (B := lB1 l D cy s.heap.size aK aV false) (pc := 739) (As := [.int (xs (i + 1)), .int (xs (i + 2))]) (rest := []) (ci := 6) C0 K1 (Nat.le_refl _) dL_law_739 lk_RL_89 rfl (by decide) (ctX6_quiet o1 g1) rfl (by decide) rfl (by decide) (Nat.le_of_ble_eq_true rfl) (Nat.le_refl _) (Nat.le_refl _) hl.1 w1 S rfl (fun H1 locs1 w1 hz hk S => ?_)
  have w2 : ctH (lB2 l D cy s.heap.size aK aV false) 21 Mm H1 := ⟨w2.1.kept (fun k x hx => by
      have hlt := (w2.1 k x hx).lt
      have hl2 : k < 21 := by
        have := (List.getElem?_eq_some_iff.mp hx).1
        simpa [ctW] using this
      rw [ctW_at hl2] at hx
      cases hx
      exact hk _ hlt (fun z => by have := z.2; simp only [bHi, bLo] at this; omega)), w2.2.1, w2.2.2.1, fun h => by cases h⟩
  refine lv_aload_n hx hb dL_law_742 rfl (lv_at hl 2 rfl) ?_
  refine lw_arg (pc := 743) (t := 1) C0 (by decide) dL_law_743 dL_law_744 dL_law_745 dL_law_746 dL_law_747 hl (by omega) hL S ?_
  refine lw_arg (pc := 748) (t := 2) C0 (by decide) dL_law_748 dL_law_749 dL_law_750 dL_law_751 dL_law_752 hl (by omega) hL S ?_
  refine lw_call (B := lB2 l D cy s.heap.size aK aV false) (pc := 753) (As := [.int (xs (i + 1)), .int (xs (i + 2))]) (rest := [.int v]) (ci := 7) C0 K2 (Nat.le_add_right _ _) dL_law_753 lk_RL_92 rfl (by decide) (ctX7_quiet o2 g2) rfl (by decide) rfl (by decide) (Nat.le_of_ble_eq_true rfl) (Nat.le_refl _) (Nat.le_refl _) hl.1 w2 S rfl (fun H2 locs2 w2 hz2 hk2 S => ?_)
  have w1 : ctH (lB1 l D cy s.heap.size aK aV false) 149 Mc2 H2 := ⟨w1.1.kept (fun k x hx => by
      have hlt := (w1.1 k x hx).lt
      have hl2 : k < 149 := by
        have := (List.getElem?_eq_some_iff.mp hx).1
        simpa [ctW] using this
      rw [ctW_at hl2] at hx
      cases hx
      exact hk2 _ hlt (fun z => by have := z.1; simp only [bHi, bLo] at this; omega)), w1.2.1, w1.2.2.1, fun h => by cases h⟩
  refine lv_icmp_eq (tgt := 1361) hx hb dL_law_756 (by decide) (fun _ => next Mc2 Mm2 H2 locs2 g3 w1 w2 S) (fun z => absurd rfl z)
set_option maxHeartbeats 4000000 in
set_option maxRecDepth 20000 in
theorem law_case_19 {Sim : ctM → ctM → Prop} {p : Program} {l : Launch} {e : Env} {s : State} {m : MethodId} {below : List Frame} {meth : Method} {c : Code} {b L : Nat} {xs : Nat → Int32} {H : Heap} {locs : List Loc} {ls : Array Slot} {D : va_G} {cy : Nat → ClassId} {aK aV : Nat → Nat} (hL : L ≤ 384) (C0 : lw_At p s m meth c b L xs) (K1 : ctK (lB1 l D cy s.heap.size aK aV false) s) (K2 : ctK (lB2 l D cy s.heap.size aK aV false) s) (hop : opS2 Sim fX6_learn fX7_learn) {Mc Mm : ctM} (hs : Sim Mc Mm) {i : Nat} (hi : i + 6 ≤ L) (hl : lv_has ls 4 [(0, .ref b), (1, .ref s.heap.size), (2, .ref (s.heap.size + 149)), (3, .int (nI i))]) (w1 : ctH (lB1 l D cy s.heap.size aK aV false) 149 Mc H) (w2 : ctH (lB2 l D cy s.heap.size aK aV false) 21 Mm H) (S : va_S (fun q : Nat => s.heap.size ≤ q) s.heap H locs)
    (next : ∀ (Mc2 Mm2 : ctM) (H1 : Heap) (locs1 : List Loc), Sim Mc2 Mm2 → ctH (lB1 l D cy s.heap.size aK aV false) 149 Mc2 H1 → ctH (lB2 l D cy s.heap.size aK aV false) 21 Mm2 H1 → va_S (fun q : Nat => s.heap.size ≤ q) s.heap H1 locs1 → W p l e room_1 s m #[Value.ref b] below meth c H1 locs1 600000 7302250 (lw_Z below #[Value.ref b] s) (F0 m 1361 ls [])) : W p l e room_1 s m #[Value.ref b] below meth c H locs 600000 7302250 (lw_Z below #[Value.ref b] s) (F0 m 761 ls []) := by
  obtain ⟨v, Mc2, Mm2, g1, g2, g3⟩ := hop Mc Mm hs (xs (i + 1)) (xs (i + 2))
  obtain ⟨hx, hb, hr, hml, hown, hts, hX, hbl, hlocks, hgv⟩ := id C0
  have o1 : ctOk (lB1 l D cy s.heap.size aK aV false) kdC lnC 149 := fun a ha => ⟨rfl, rfl, kdC_lt a ha⟩
  have o2 : ctOk (lB2 l D cy s.heap.size aK aV false) kdM lnM 21 := fun a ha => ⟨rfl, rfl, kdM_lt a ha⟩
  refine lv_aload_n hx hb dL_law_761 rfl (lv_at hl 1 rfl) ?_
  refine lw_arg (pc := 762) (t := 1) C0 (by decide) dL_law_762 dL_law_763 dL_law_764 dL_law_765 dL_law_766 hl (by omega) hL S ?_
  refine lw_arg (pc := 767) (t := 2) C0 (by decide) dL_law_767 dL_law_768 dL_law_769 dL_law_770 dL_law_771 hl (by omega) hL S ?_
  refine lw_call (B := lB1 l D cy s.heap.size aK aV false) (pc := 772) (As := [.int (xs (i + 1)), .int (xs (i + 2))]) (rest := []) (ci := 6) C0 K1 (Nat.le_refl _) dL_law_772 lk_RL_93 rfl (by decide) (ctX6_learn o1 g1) rfl (by decide) rfl (by decide) (Nat.le_of_ble_eq_true rfl) (Nat.le_refl _) (Nat.le_refl _) hl.1 w1 S rfl (fun H1 locs1 w1 hz hk S => ?_)
  have w2 : ctH (lB2 l D cy s.heap.size aK aV false) 21 Mm H1 := ⟨w2.1.kept (fun k x hx => by
      have hlt := (w2.1 k x hx).lt
      have hl2 : k < 21 := by
        have := (List.getElem?_eq_some_iff.mp hx).1
        simpa [ctW] using this
      rw [ctW_at hl2] at hx
      cases hx
      exact hk _ hlt (fun z => by have := z.2; simp only [bHi, bLo] at this; omega)), w2.2.1, w2.2.2.1, fun h => by cases h⟩
  refine lv_aload_n hx hb dL_law_775 rfl (lv_at hl 2 rfl) ?_
  refine lw_arg (pc := 776) (t := 1) C0 (by decide) dL_law_776 dL_law_777 dL_law_778 dL_law_779 dL_law_780 hl (by omega) hL S ?_
  refine lw_arg (pc := 781) (t := 2) C0 (by decide) dL_law_781 dL_law_782 dL_law_783 dL_law_784 dL_law_785 hl (by omega) hL S ?_
  refine lw_call (B := lB2 l D cy s.heap.size aK aV false) (pc := 786) (As := [.int (xs (i + 1)), .int (xs (i + 2))]) (rest := [.int v]) (ci := 7) C0 K2 (Nat.le_add_right _ _) dL_law_786 lk_RL_96 rfl (by decide) (ctX7_learn o2 g2) rfl (by decide) rfl (by decide) (Nat.le_of_ble_eq_true rfl) (Nat.le_refl _) (Nat.le_refl _) hl.1 w2 S rfl (fun H2 locs2 w2 hz2 hk2 S => ?_)
  have w1 : ctH (lB1 l D cy s.heap.size aK aV false) 149 Mc2 H2 := ⟨w1.1.kept (fun k x hx => by
      have hlt := (w1.1 k x hx).lt
      have hl2 : k < 149 := by
        have := (List.getElem?_eq_some_iff.mp hx).1
        simpa [ctW] using this
      rw [ctW_at hl2] at hx
      cases hx
      exact hk2 _ hlt (fun z => by have := z.1; simp only [bHi, bLo] at this; omega)), w1.2.1, w1.2.2.1, fun h => by cases h⟩
  refine lv_icmp_eq (tgt := 1361) hx hb dL_law_789 (by decide) (fun _ => next Mc2 Mm2 H2 locs2 g3 w1 w2 S) (fun z => absurd rfl z)
set_option maxHeartbeats 4000000 in
set_option maxRecDepth 20000 in
theorem law_case_20 {Sim : ctM → ctM → Prop} {p : Program} {l : Launch} {e : Env} {s : State} {m : MethodId} {below : List Frame} {meth : Method} {c : Code} {b L : Nat} {xs : Nat → Int32} {H : Heap} {locs : List Loc} {ls : Array Slot} {D : va_G} {cy : Nat → ClassId} {aK aV : Nat → Nat} (hL : L ≤ 384) (C0 : lw_At p s m meth c b L xs) (K1 : ctK (lB1 l D cy s.heap.size aK aV false) s) (K2 : ctK (lB2 l D cy s.heap.size aK aV false) s) (hop : opS3 Sim fX6_feed fX7_feed) {Mc Mm : ctM} (hs : Sim Mc Mm) {i : Nat} (hi : i + 6 ≤ L) (hl : lv_has ls 4 [(0, .ref b), (1, .ref s.heap.size), (2, .ref (s.heap.size + 149)), (3, .int (nI i))]) (w1 : ctH (lB1 l D cy s.heap.size aK aV false) 149 Mc H) (w2 : ctH (lB2 l D cy s.heap.size aK aV false) 21 Mm H) (S : va_S (fun q : Nat => s.heap.size ≤ q) s.heap H locs)
    (next : ∀ (Mc2 Mm2 : ctM) (H1 : Heap) (locs1 : List Loc), Sim Mc2 Mm2 → ctH (lB1 l D cy s.heap.size aK aV false) 149 Mc2 H1 → ctH (lB2 l D cy s.heap.size aK aV false) 21 Mm2 H1 → va_S (fun q : Nat => s.heap.size ≤ q) s.heap H1 locs1 → W p l e room_1 s m #[Value.ref b] below meth c H1 locs1 600000 7302250 (lw_Z below #[Value.ref b] s) (F0 m 1361 ls [])) : W p l e room_1 s m #[Value.ref b] below meth c H locs 600000 7302250 (lw_Z below #[Value.ref b] s) (F0 m 794 ls []) := by
  obtain ⟨v, Mc2, Mm2, g1, g2, g3⟩ := hop Mc Mm hs (xs (i + 1)) (xs (i + 2)) (xs (i + 3))
  obtain ⟨hx, hb, hr, hml, hown, hts, hX, hbl, hlocks, hgv⟩ := id C0
  have o1 : ctOk (lB1 l D cy s.heap.size aK aV false) kdC lnC 149 := fun a ha => ⟨rfl, rfl, kdC_lt a ha⟩
  have o2 : ctOk (lB2 l D cy s.heap.size aK aV false) kdM lnM 21 := fun a ha => ⟨rfl, rfl, kdM_lt a ha⟩
  refine lv_aload_n hx hb dL_law_794 rfl (lv_at hl 1 rfl) ?_
  refine lw_arg (pc := 795) (t := 1) C0 (by decide) dL_law_795 dL_law_796 dL_law_797 dL_law_798 dL_law_799 hl (by omega) hL S ?_
  refine lw_arg (pc := 800) (t := 2) C0 (by decide) dL_law_800 dL_law_801 dL_law_802 dL_law_803 dL_law_804 hl (by omega) hL S ?_
  refine lw_arg (pc := 805) (t := 3) C0 (by decide) dL_law_805 dL_law_806 dL_law_807 dL_law_808 dL_law_809 hl (by omega) hL S ?_
  refine lw_call (B := lB1 l D cy s.heap.size aK aV false) (pc := 810) (As := [.int (xs (i + 1)), .int (xs (i + 2)), .int (xs (i + 3))]) (rest := []) (ci := 6) C0 K1 (Nat.le_refl _) dL_law_810 lk_RL_97 rfl (by decide) (ctX6_feed o1 g1) rfl (by decide) rfl (by decide) (Nat.le_of_ble_eq_true rfl) (Nat.le_refl _) (Nat.le_refl _) hl.1 w1 S rfl (fun H1 locs1 w1 hz hk S => ?_)
  have w2 : ctH (lB2 l D cy s.heap.size aK aV false) 21 Mm H1 := ⟨w2.1.kept (fun k x hx => by
      have hlt := (w2.1 k x hx).lt
      have hl2 : k < 21 := by
        have := (List.getElem?_eq_some_iff.mp hx).1
        simpa [ctW] using this
      rw [ctW_at hl2] at hx
      cases hx
      exact hk _ hlt (fun z => by have := z.2; simp only [bHi, bLo] at this; omega)), w2.2.1, w2.2.2.1, fun h => by cases h⟩
  refine lv_aload_n hx hb dL_law_813 rfl (lv_at hl 2 rfl) ?_
  refine lw_arg (pc := 814) (t := 1) C0 (by decide) dL_law_814 dL_law_815 dL_law_816 dL_law_817 dL_law_818 hl (by omega) hL S ?_
  refine lw_arg (pc := 819) (t := 2) C0 (by decide) dL_law_819 dL_law_820 dL_law_821 dL_law_822 dL_law_823 hl (by omega) hL S ?_
  refine lw_arg (pc := 824) (t := 3) C0 (by decide) dL_law_824 dL_law_825 dL_law_826 dL_law_827 dL_law_828 hl (by omega) hL S ?_
  refine lw_call (B := lB2 l D cy s.heap.size aK aV false) (pc := 829) (As := [.int (xs (i + 1)), .int (xs (i + 2)), .int (xs (i + 3))]) (rest := [.int v]) (ci := 7) C0 K2 (Nat.le_add_right _ _) dL_law_829 lk_RL_100 rfl (by decide) (ctX7_feed o2 g2) rfl (by decide) rfl (by decide) (Nat.le_of_ble_eq_true rfl) (Nat.le_refl _) (Nat.le_refl _) hl.1 w2 S rfl (fun H2 locs2 w2 hz2 hk2 S => ?_)
  have w1 : ctH (lB1 l D cy s.heap.size aK aV false) 149 Mc2 H2 := ⟨w1.1.kept (fun k x hx => by
      have hlt := (w1.1 k x hx).lt
      have hl2 : k < 149 := by
        have := (List.getElem?_eq_some_iff.mp hx).1
        simpa [ctW] using this
      rw [ctW_at hl2] at hx
      cases hx
      exact hk2 _ hlt (fun z => by have := z.1; simp only [bHi, bLo] at this; omega)), w1.2.1, w1.2.2.1, fun h => by cases h⟩
  refine lv_icmp_eq (tgt := 1361) hx hb dL_law_832 (by decide) (fun _ => next Mc2 Mm2 H2 locs2 g3 w1 w2 S) (fun z => absurd rfl z)
set_option maxHeartbeats 4000000 in
set_option maxRecDepth 20000 in
theorem law_case_21 {Sim : ctM → ctM → Prop} {p : Program} {l : Launch} {e : Env} {s : State} {m : MethodId} {below : List Frame} {meth : Method} {c : Code} {b L : Nat} {xs : Nat → Int32} {H : Heap} {locs : List Loc} {ls : Array Slot} {D : va_G} {cy : Nat → ClassId} {aK aV : Nat → Nat} (hL : L ≤ 384) (C0 : lw_At p s m meth c b L xs) (K1 : ctK (lB1 l D cy s.heap.size aK aV false) s) (K2 : ctK (lB2 l D cy s.heap.size aK aV false) s) (hop : opS1 Sim fX6_trim fX7_trim) {Mc Mm : ctM} (hs : Sim Mc Mm) {i : Nat} (hi : i + 6 ≤ L) (hl : lv_has ls 4 [(0, .ref b), (1, .ref s.heap.size), (2, .ref (s.heap.size + 149)), (3, .int (nI i))]) (w1 : ctH (lB1 l D cy s.heap.size aK aV false) 149 Mc H) (w2 : ctH (lB2 l D cy s.heap.size aK aV false) 21 Mm H) (S : va_S (fun q : Nat => s.heap.size ≤ q) s.heap H locs)
    (next : ∀ (Mc2 Mm2 : ctM) (H1 : Heap) (locs1 : List Loc), Sim Mc2 Mm2 → ctH (lB1 l D cy s.heap.size aK aV false) 149 Mc2 H1 → ctH (lB2 l D cy s.heap.size aK aV false) 21 Mm2 H1 → va_S (fun q : Nat => s.heap.size ≤ q) s.heap H1 locs1 → W p l e room_1 s m #[Value.ref b] below meth c H1 locs1 600000 7302250 (lw_Z below #[Value.ref b] s) (F0 m 1361 ls [])) : W p l e room_1 s m #[Value.ref b] below meth c H locs 600000 7302250 (lw_Z below #[Value.ref b] s) (F0 m 837 ls []) := by
  obtain ⟨v, Mc2, Mm2, g1, g2, g3⟩ := hop Mc Mm hs (xs (i + 1))
  obtain ⟨hx, hb, hr, hml, hown, hts, hX, hbl, hlocks, hgv⟩ := id C0
  have o1 : ctOk (lB1 l D cy s.heap.size aK aV false) kdC lnC 149 := fun a ha => ⟨rfl, rfl, kdC_lt a ha⟩
  have o2 : ctOk (lB2 l D cy s.heap.size aK aV false) kdM lnM 21 := fun a ha => ⟨rfl, rfl, kdM_lt a ha⟩
  refine lv_aload_n hx hb dL_law_837 rfl (lv_at hl 1 rfl) ?_
  refine lw_arg (pc := 838) (t := 1) C0 (by decide) dL_law_838 dL_law_839 dL_law_840 dL_law_841 dL_law_842 hl (by omega) hL S ?_
  refine lw_call (B := lB1 l D cy s.heap.size aK aV false) (pc := 843) (As := [.int (xs (i + 1))]) (rest := []) (ci := 6) C0 K1 (Nat.le_refl _) dL_law_843 lk_RL_101 rfl (by decide) (ctX6_trim o1 g1) rfl (by decide) rfl (by decide) (Nat.le_of_ble_eq_true rfl) (Nat.le_refl _) (Nat.le_refl _) hl.1 w1 S rfl (fun H1 locs1 w1 hz hk S => ?_)
  have w2 : ctH (lB2 l D cy s.heap.size aK aV false) 21 Mm H1 := ⟨w2.1.kept (fun k x hx => by
      have hlt := (w2.1 k x hx).lt
      have hl2 : k < 21 := by
        have := (List.getElem?_eq_some_iff.mp hx).1
        simpa [ctW] using this
      rw [ctW_at hl2] at hx
      cases hx
      exact hk _ hlt (fun z => by have := z.2; simp only [bHi, bLo] at this; omega)), w2.2.1, w2.2.2.1, fun h => by cases h⟩
  refine lv_aload_n hx hb dL_law_846 rfl (lv_at hl 2 rfl) ?_
  refine lw_arg (pc := 847) (t := 1) C0 (by decide) dL_law_847 dL_law_848 dL_law_849 dL_law_850 dL_law_851 hl (by omega) hL S ?_
  refine lw_call (B := lB2 l D cy s.heap.size aK aV false) (pc := 852) (As := [.int (xs (i + 1))]) (rest := [.int v]) (ci := 7) C0 K2 (Nat.le_add_right _ _) dL_law_852 lk_RL_104 rfl (by decide) (ctX7_trim o2 g2) rfl (by decide) rfl (by decide) (Nat.le_of_ble_eq_true rfl) (Nat.le_refl _) (Nat.le_refl _) hl.1 w2 S rfl (fun H2 locs2 w2 hz2 hk2 S => ?_)
  have w1 : ctH (lB1 l D cy s.heap.size aK aV false) 149 Mc2 H2 := ⟨w1.1.kept (fun k x hx => by
      have hlt := (w1.1 k x hx).lt
      have hl2 : k < 149 := by
        have := (List.getElem?_eq_some_iff.mp hx).1
        simpa [ctW] using this
      rw [ctW_at hl2] at hx
      cases hx
      exact hk2 _ hlt (fun z => by have := z.1; simp only [bHi, bLo] at this; omega)), w1.2.1, w1.2.2.1, fun h => by cases h⟩
  refine lv_icmp_eq (tgt := 1361) hx hb dL_law_855 (by decide) (fun _ => next Mc2 Mm2 H2 locs2 g3 w1 w2 S) (fun z => absurd rfl z)
set_option maxHeartbeats 4000000 in
set_option maxRecDepth 20000 in
theorem law_case_22 {Sim : ctM → ctM → Prop} {p : Program} {l : Launch} {e : Env} {s : State} {m : MethodId} {below : List Frame} {meth : Method} {c : Code} {b L : Nat} {xs : Nat → Int32} {H : Heap} {locs : List Loc} {ls : Array Slot} {D : va_G} {cy : Nat → ClassId} {aK aV : Nat → Nat} (hL : L ≤ 384) (C0 : lw_At p s m meth c b L xs) (K1 : ctK (lB1 l D cy s.heap.size aK aV false) s) (K2 : ctK (lB2 l D cy s.heap.size aK aV false) s) (hop : opS0 Sim fX6_text fX7_text) {Mc Mm : ctM} (hs : Sim Mc Mm) {i : Nat} (hi : i + 6 ≤ L) (hl : lv_has ls 4 [(0, .ref b), (1, .ref s.heap.size), (2, .ref (s.heap.size + 149)), (3, .int (nI i))]) (w1 : ctH (lB1 l D cy s.heap.size aK aV false) 149 Mc H) (w2 : ctH (lB2 l D cy s.heap.size aK aV false) 21 Mm H) (S : va_S (fun q : Nat => s.heap.size ≤ q) s.heap H locs)
    (next : ∀ (Mc2 Mm2 : ctM) (H1 : Heap) (locs1 : List Loc), Sim Mc2 Mm2 → ctH (lB1 l D cy s.heap.size aK aV false) 149 Mc2 H1 → ctH (lB2 l D cy s.heap.size aK aV false) 21 Mm2 H1 → va_S (fun q : Nat => s.heap.size ≤ q) s.heap H1 locs1 → W p l e room_1 s m #[Value.ref b] below meth c H1 locs1 600000 7302250 (lw_Z below #[Value.ref b] s) (F0 m 1361 ls [])) : W p l e room_1 s m #[Value.ref b] below meth c H locs 600000 7302250 (lw_Z below #[Value.ref b] s) (F0 m 860 ls []) := by
  obtain ⟨v, Mc2, Mm2, g1, g2, g3⟩ := hop Mc Mm hs 
  obtain ⟨hx, hb, hr, hml, hown, hts, hX, hbl, hlocks, hgv⟩ := id C0
  have o1 : ctOk (lB1 l D cy s.heap.size aK aV false) kdC lnC 149 := fun a ha => ⟨rfl, rfl, kdC_lt a ha⟩
  have o2 : ctOk (lB2 l D cy s.heap.size aK aV false) kdM lnM 21 := fun a ha => ⟨rfl, rfl, kdM_lt a ha⟩
  refine lv_aload_n hx hb dL_law_860 rfl (lv_at hl 1 rfl) ?_
  refine lw_call (B := lB1 l D cy s.heap.size aK aV false) (pc := 861) (As := []) (rest := []) (ci := 6) C0 K1 (Nat.le_refl _) dL_law_861 lk_RL_105 rfl (by decide) (ctX6_text o1 g1) rfl (by decide) rfl (by decide) (Nat.le_of_ble_eq_true rfl) (Nat.le_refl _) (Nat.le_refl _) hl.1 w1 S rfl (fun H1 locs1 w1 hz hk S => ?_)
  have w2 : ctH (lB2 l D cy s.heap.size aK aV false) 21 Mm H1 := ⟨w2.1.kept (fun k x hx => by
      have hlt := (w2.1 k x hx).lt
      have hl2 : k < 21 := by
        have := (List.getElem?_eq_some_iff.mp hx).1
        simpa [ctW] using this
      rw [ctW_at hl2] at hx
      cases hx
      exact hk _ hlt (fun z => by have := z.2; simp only [bHi, bLo] at this; omega)), w2.2.1, w2.2.2.1, fun h => by cases h⟩
  refine lv_aload_n hx hb dL_law_864 rfl (lv_at hl 2 rfl) ?_
  refine lw_call (B := lB2 l D cy s.heap.size aK aV false) (pc := 865) (As := []) (rest := [.int v]) (ci := 7) C0 K2 (Nat.le_add_right _ _) dL_law_865 lk_RL_108 rfl (by decide) (ctX7_text o2 g2) rfl (by decide) rfl (by decide) (Nat.le_of_ble_eq_true rfl) (Nat.le_refl _) (Nat.le_refl _) hl.1 w2 S rfl (fun H2 locs2 w2 hz2 hk2 S => ?_)
  have w1 : ctH (lB1 l D cy s.heap.size aK aV false) 149 Mc2 H2 := ⟨w1.1.kept (fun k x hx => by
      have hlt := (w1.1 k x hx).lt
      have hl2 : k < 149 := by
        have := (List.getElem?_eq_some_iff.mp hx).1
        simpa [ctW] using this
      rw [ctW_at hl2] at hx
      cases hx
      exact hk2 _ hlt (fun z => by have := z.1; simp only [bHi, bLo] at this; omega)), w1.2.1, w1.2.2.1, fun h => by cases h⟩
  refine lv_icmp_eq (tgt := 1361) hx hb dL_law_868 (by decide) (fun _ => next Mc2 Mm2 H2 locs2 g3 w1 w2 S) (fun z => absurd rfl z)
set_option maxHeartbeats 4000000 in
set_option maxRecDepth 20000 in
theorem law_case_23 {Sim : ctM → ctM → Prop} {p : Program} {l : Launch} {e : Env} {s : State} {m : MethodId} {below : List Frame} {meth : Method} {c : Code} {b L : Nat} {xs : Nat → Int32} {H : Heap} {locs : List Loc} {ls : Array Slot} {D : va_G} {cy : Nat → ClassId} {aK aV : Nat → Nat} (hL : L ≤ 384) (C0 : lw_At p s m meth c b L xs) (K1 : ctK (lB1 l D cy s.heap.size aK aV false) s) (K2 : ctK (lB2 l D cy s.heap.size aK aV false) s) (hop : opS2 Sim fX6_textTold fX7_textTold) {Mc Mm : ctM} (hs : Sim Mc Mm) {i : Nat} (hi : i + 6 ≤ L) (hl : lv_has ls 4 [(0, .ref b), (1, .ref s.heap.size), (2, .ref (s.heap.size + 149)), (3, .int (nI i))]) (w1 : ctH (lB1 l D cy s.heap.size aK aV false) 149 Mc H) (w2 : ctH (lB2 l D cy s.heap.size aK aV false) 21 Mm H) (S : va_S (fun q : Nat => s.heap.size ≤ q) s.heap H locs)
    (next : ∀ (Mc2 Mm2 : ctM) (H1 : Heap) (locs1 : List Loc), Sim Mc2 Mm2 → ctH (lB1 l D cy s.heap.size aK aV false) 149 Mc2 H1 → ctH (lB2 l D cy s.heap.size aK aV false) 21 Mm2 H1 → va_S (fun q : Nat => s.heap.size ≤ q) s.heap H1 locs1 → W p l e room_1 s m #[Value.ref b] below meth c H1 locs1 600000 7302250 (lw_Z below #[Value.ref b] s) (F0 m 1361 ls [])) : W p l e room_1 s m #[Value.ref b] below meth c H locs 600000 7302250 (lw_Z below #[Value.ref b] s) (F0 m 873 ls []) := by
  obtain ⟨v, Mc2, Mm2, g1, g2, g3⟩ := hop Mc Mm hs (xs (i + 1)) (xs (i + 2))
  obtain ⟨hx, hb, hr, hml, hown, hts, hX, hbl, hlocks, hgv⟩ := id C0
  have o1 : ctOk (lB1 l D cy s.heap.size aK aV false) kdC lnC 149 := fun a ha => ⟨rfl, rfl, kdC_lt a ha⟩
  have o2 : ctOk (lB2 l D cy s.heap.size aK aV false) kdM lnM 21 := fun a ha => ⟨rfl, rfl, kdM_lt a ha⟩
  refine lv_aload_n hx hb dL_law_873 rfl (lv_at hl 1 rfl) ?_
  refine lw_arg (pc := 874) (t := 1) C0 (by decide) dL_law_874 dL_law_875 dL_law_876 dL_law_877 dL_law_878 hl (by omega) hL S ?_
  refine lw_arg (pc := 879) (t := 2) C0 (by decide) dL_law_879 dL_law_880 dL_law_881 dL_law_882 dL_law_883 hl (by omega) hL S ?_
  refine lw_call (B := lB1 l D cy s.heap.size aK aV false) (pc := 884) (As := [.int (xs (i + 1)), .int (xs (i + 2))]) (rest := []) (ci := 6) C0 K1 (Nat.le_refl _) dL_law_884 lk_RL_109 rfl (by decide) (ctX6_textTold o1 g1) rfl (by decide) rfl (by decide) (Nat.le_of_ble_eq_true rfl) (Nat.le_refl _) (Nat.le_refl _) hl.1 w1 S rfl (fun H1 locs1 w1 hz hk S => ?_)
  have w2 : ctH (lB2 l D cy s.heap.size aK aV false) 21 Mm H1 := ⟨w2.1.kept (fun k x hx => by
      have hlt := (w2.1 k x hx).lt
      have hl2 : k < 21 := by
        have := (List.getElem?_eq_some_iff.mp hx).1
        simpa [ctW] using this
      rw [ctW_at hl2] at hx
      cases hx
      exact hk _ hlt (fun z => by have := z.2; simp only [bHi, bLo] at this; omega)), w2.2.1, w2.2.2.1, fun h => by cases h⟩
  refine lv_aload_n hx hb dL_law_887 rfl (lv_at hl 2 rfl) ?_
  refine lw_arg (pc := 888) (t := 1) C0 (by decide) dL_law_888 dL_law_889 dL_law_890 dL_law_891 dL_law_892 hl (by omega) hL S ?_
  refine lw_arg (pc := 893) (t := 2) C0 (by decide) dL_law_893 dL_law_894 dL_law_895 dL_law_896 dL_law_897 hl (by omega) hL S ?_
  refine lw_call (B := lB2 l D cy s.heap.size aK aV false) (pc := 898) (As := [.int (xs (i + 1)), .int (xs (i + 2))]) (rest := [.int v]) (ci := 7) C0 K2 (Nat.le_add_right _ _) dL_law_898 lk_RL_112 rfl (by decide) (ctX7_textTold o2 g2) rfl (by decide) rfl (by decide) (Nat.le_of_ble_eq_true rfl) (Nat.le_refl _) (Nat.le_refl _) hl.1 w2 S rfl (fun H2 locs2 w2 hz2 hk2 S => ?_)
  have w1 : ctH (lB1 l D cy s.heap.size aK aV false) 149 Mc2 H2 := ⟨w1.1.kept (fun k x hx => by
      have hlt := (w1.1 k x hx).lt
      have hl2 : k < 149 := by
        have := (List.getElem?_eq_some_iff.mp hx).1
        simpa [ctW] using this
      rw [ctW_at hl2] at hx
      cases hx
      exact hk2 _ hlt (fun z => by have := z.1; simp only [bHi, bLo] at this; omega)), w1.2.1, w1.2.2.1, fun h => by cases h⟩
  refine lv_icmp_eq (tgt := 1361) hx hb dL_law_901 (by decide) (fun _ => next Mc2 Mm2 H2 locs2 g3 w1 w2 S) (fun z => absurd rfl z)
set_option maxHeartbeats 4000000 in
set_option maxRecDepth 20000 in
theorem law_case_24 {Sim : ctM → ctM → Prop} {p : Program} {l : Launch} {e : Env} {s : State} {m : MethodId} {below : List Frame} {meth : Method} {c : Code} {b L : Nat} {xs : Nat → Int32} {H : Heap} {locs : List Loc} {ls : Array Slot} {D : va_G} {cy : Nat → ClassId} {aK aV : Nat → Nat} (hL : L ≤ 384) (C0 : lw_At p s m meth c b L xs) (K1 : ctK (lB1 l D cy s.heap.size aK aV false) s) (K2 : ctK (lB2 l D cy s.heap.size aK aV false) s) (hop : opS1 Sim fX6_why fX7_why) {Mc Mm : ctM} (hs : Sim Mc Mm) {i : Nat} (hi : i + 6 ≤ L) (hl : lv_has ls 4 [(0, .ref b), (1, .ref s.heap.size), (2, .ref (s.heap.size + 149)), (3, .int (nI i))]) (w1 : ctH (lB1 l D cy s.heap.size aK aV false) 149 Mc H) (w2 : ctH (lB2 l D cy s.heap.size aK aV false) 21 Mm H) (S : va_S (fun q : Nat => s.heap.size ≤ q) s.heap H locs)
    (next : ∀ (Mc2 Mm2 : ctM) (H1 : Heap) (locs1 : List Loc), Sim Mc2 Mm2 → ctH (lB1 l D cy s.heap.size aK aV false) 149 Mc2 H1 → ctH (lB2 l D cy s.heap.size aK aV false) 21 Mm2 H1 → va_S (fun q : Nat => s.heap.size ≤ q) s.heap H1 locs1 → W p l e room_1 s m #[Value.ref b] below meth c H1 locs1 600000 7302250 (lw_Z below #[Value.ref b] s) (F0 m 1361 ls [])) : W p l e room_1 s m #[Value.ref b] below meth c H locs 600000 7302250 (lw_Z below #[Value.ref b] s) (F0 m 906 ls []) := by
  obtain ⟨v, Mc2, Mm2, g1, g2, g3⟩ := hop Mc Mm hs (xs (i + 1))
  obtain ⟨hx, hb, hr, hml, hown, hts, hX, hbl, hlocks, hgv⟩ := id C0
  have o1 : ctOk (lB1 l D cy s.heap.size aK aV false) kdC lnC 149 := fun a ha => ⟨rfl, rfl, kdC_lt a ha⟩
  have o2 : ctOk (lB2 l D cy s.heap.size aK aV false) kdM lnM 21 := fun a ha => ⟨rfl, rfl, kdM_lt a ha⟩
  refine lv_aload_n hx hb dL_law_906 rfl (lv_at hl 1 rfl) ?_
  refine lw_arg (pc := 907) (t := 1) C0 (by decide) dL_law_907 dL_law_908 dL_law_909 dL_law_910 dL_law_911 hl (by omega) hL S ?_
  refine lw_call (B := lB1 l D cy s.heap.size aK aV false) (pc := 912) (As := [.int (xs (i + 1))]) (rest := []) (ci := 6) C0 K1 (Nat.le_refl _) dL_law_912 lk_RL_113 rfl (by decide) (ctX6_why o1 g1) rfl (by decide) rfl (by decide) (Nat.le_of_ble_eq_true rfl) (Nat.le_refl _) (Nat.le_refl _) hl.1 w1 S rfl (fun H1 locs1 w1 hz hk S => ?_)
  have w2 : ctH (lB2 l D cy s.heap.size aK aV false) 21 Mm H1 := ⟨w2.1.kept (fun k x hx => by
      have hlt := (w2.1 k x hx).lt
      have hl2 : k < 21 := by
        have := (List.getElem?_eq_some_iff.mp hx).1
        simpa [ctW] using this
      rw [ctW_at hl2] at hx
      cases hx
      exact hk _ hlt (fun z => by have := z.2; simp only [bHi, bLo] at this; omega)), w2.2.1, w2.2.2.1, fun h => by cases h⟩
  refine lv_aload_n hx hb dL_law_915 rfl (lv_at hl 2 rfl) ?_
  refine lw_arg (pc := 916) (t := 1) C0 (by decide) dL_law_916 dL_law_917 dL_law_918 dL_law_919 dL_law_920 hl (by omega) hL S ?_
  refine lw_call (B := lB2 l D cy s.heap.size aK aV false) (pc := 921) (As := [.int (xs (i + 1))]) (rest := [.int v]) (ci := 7) C0 K2 (Nat.le_add_right _ _) dL_law_921 lk_RL_116 rfl (by decide) (ctX7_why o2 g2) rfl (by decide) rfl (by decide) (Nat.le_of_ble_eq_true rfl) (Nat.le_refl _) (Nat.le_refl _) hl.1 w2 S rfl (fun H2 locs2 w2 hz2 hk2 S => ?_)
  have w1 : ctH (lB1 l D cy s.heap.size aK aV false) 149 Mc2 H2 := ⟨w1.1.kept (fun k x hx => by
      have hlt := (w1.1 k x hx).lt
      have hl2 : k < 149 := by
        have := (List.getElem?_eq_some_iff.mp hx).1
        simpa [ctW] using this
      rw [ctW_at hl2] at hx
      cases hx
      exact hk2 _ hlt (fun z => by have := z.1; simp only [bHi, bLo] at this; omega)), w1.2.1, w1.2.2.1, fun h => by cases h⟩
  refine lv_icmp_eq (tgt := 1361) hx hb dL_law_924 (by decide) (fun _ => next Mc2 Mm2 H2 locs2 g3 w1 w2 S) (fun z => absurd rfl z)
set_option maxHeartbeats 4000000 in
set_option maxRecDepth 20000 in
theorem law_case_25 {Sim : ctM → ctM → Prop} {p : Program} {l : Launch} {e : Env} {s : State} {m : MethodId} {below : List Frame} {meth : Method} {c : Code} {b L : Nat} {xs : Nat → Int32} {H : Heap} {locs : List Loc} {ls : Array Slot} {D : va_G} {cy : Nat → ClassId} {aK aV : Nat → Nat} (hL : L ≤ 384) (C0 : lw_At p s m meth c b L xs) (K1 : ctK (lB1 l D cy s.heap.size aK aV false) s) (K2 : ctK (lB2 l D cy s.heap.size aK aV false) s) (hop : opS3 Sim fX6_sheet fX7_sheet) {Mc Mm : ctM} (hs : Sim Mc Mm) {i : Nat} (hi : i + 6 ≤ L) (hl : lv_has ls 4 [(0, .ref b), (1, .ref s.heap.size), (2, .ref (s.heap.size + 149)), (3, .int (nI i))]) (w1 : ctH (lB1 l D cy s.heap.size aK aV false) 149 Mc H) (w2 : ctH (lB2 l D cy s.heap.size aK aV false) 21 Mm H) (S : va_S (fun q : Nat => s.heap.size ≤ q) s.heap H locs)
    (next : ∀ (Mc2 Mm2 : ctM) (H1 : Heap) (locs1 : List Loc), Sim Mc2 Mm2 → ctH (lB1 l D cy s.heap.size aK aV false) 149 Mc2 H1 → ctH (lB2 l D cy s.heap.size aK aV false) 21 Mm2 H1 → va_S (fun q : Nat => s.heap.size ≤ q) s.heap H1 locs1 → W p l e room_1 s m #[Value.ref b] below meth c H1 locs1 600000 7302250 (lw_Z below #[Value.ref b] s) (F0 m 1361 ls [])) : W p l e room_1 s m #[Value.ref b] below meth c H locs 600000 7302250 (lw_Z below #[Value.ref b] s) (F0 m 929 ls []) := by
  obtain ⟨v, Mc2, Mm2, g1, g2, g3⟩ := hop Mc Mm hs (xs (i + 1)) (xs (i + 2)) (xs (i + 3))
  obtain ⟨hx, hb, hr, hml, hown, hts, hX, hbl, hlocks, hgv⟩ := id C0
  have o1 : ctOk (lB1 l D cy s.heap.size aK aV false) kdC lnC 149 := fun a ha => ⟨rfl, rfl, kdC_lt a ha⟩
  have o2 : ctOk (lB2 l D cy s.heap.size aK aV false) kdM lnM 21 := fun a ha => ⟨rfl, rfl, kdM_lt a ha⟩
  refine lv_aload_n hx hb dL_law_929 rfl (lv_at hl 1 rfl) ?_
  refine lw_arg (pc := 930) (t := 1) C0 (by decide) dL_law_930 dL_law_931 dL_law_932 dL_law_933 dL_law_934 hl (by omega) hL S ?_
  refine lw_arg (pc := 935) (t := 2) C0 (by decide) dL_law_935 dL_law_936 dL_law_937 dL_law_938 dL_law_939 hl (by omega) hL S ?_
  refine lw_arg (pc := 940) (t := 3) C0 (by decide) dL_law_940 dL_law_941 dL_law_942 dL_law_943 dL_law_944 hl (by omega) hL S ?_
  refine lw_call (B := lB1 l D cy s.heap.size aK aV false) (pc := 945) (As := [.int (xs (i + 1)), .int (xs (i + 2)), .int (xs (i + 3))]) (rest := []) (ci := 6) C0 K1 (Nat.le_refl _) dL_law_945 lk_RL_117 rfl (by decide) (ctX6_sheet o1 g1) rfl (by decide) rfl (by decide) (Nat.le_of_ble_eq_true rfl) (Nat.le_refl _) (Nat.le_refl _) hl.1 w1 S rfl (fun H1 locs1 w1 hz hk S => ?_)
  have w2 : ctH (lB2 l D cy s.heap.size aK aV false) 21 Mm H1 := ⟨w2.1.kept (fun k x hx => by
      have hlt := (w2.1 k x hx).lt
      have hl2 : k < 21 := by
        have := (List.getElem?_eq_some_iff.mp hx).1
        simpa [ctW] using this
      rw [ctW_at hl2] at hx
      cases hx
      exact hk _ hlt (fun z => by have := z.2; simp only [bHi, bLo] at this; omega)), w2.2.1, w2.2.2.1, fun h => by cases h⟩
  refine lv_aload_n hx hb dL_law_948 rfl (lv_at hl 2 rfl) ?_
  refine lw_arg (pc := 949) (t := 1) C0 (by decide) dL_law_949 dL_law_950 dL_law_951 dL_law_952 dL_law_953 hl (by omega) hL S ?_
  refine lw_arg (pc := 954) (t := 2) C0 (by decide) dL_law_954 dL_law_955 dL_law_956 dL_law_957 dL_law_958 hl (by omega) hL S ?_
  refine lw_arg (pc := 959) (t := 3) C0 (by decide) dL_law_959 dL_law_960 dL_law_961 dL_law_962 dL_law_963 hl (by omega) hL S ?_
  refine lw_call (B := lB2 l D cy s.heap.size aK aV false) (pc := 964) (As := [.int (xs (i + 1)), .int (xs (i + 2)), .int (xs (i + 3))]) (rest := [.int v]) (ci := 7) C0 K2 (Nat.le_add_right _ _) dL_law_964 lk_RL_120 rfl (by decide) (ctX7_sheet o2 g2) rfl (by decide) rfl (by decide) (Nat.le_of_ble_eq_true rfl) (Nat.le_refl _) (Nat.le_refl _) hl.1 w2 S rfl (fun H2 locs2 w2 hz2 hk2 S => ?_)
  have w1 : ctH (lB1 l D cy s.heap.size aK aV false) 149 Mc2 H2 := ⟨w1.1.kept (fun k x hx => by
      have hlt := (w1.1 k x hx).lt
      have hl2 : k < 149 := by
        have := (List.getElem?_eq_some_iff.mp hx).1
        simpa [ctW] using this
      rw [ctW_at hl2] at hx
      cases hx
      exact hk2 _ hlt (fun z => by have := z.1; simp only [bHi, bLo] at this; omega)), w1.2.1, w1.2.2.1, fun h => by cases h⟩
  refine lv_icmp_eq (tgt := 1361) hx hb dL_law_967 (by decide) (fun _ => next Mc2 Mm2 H2 locs2 g3 w1 w2 S) (fun z => absurd rfl z)
set_option maxHeartbeats 4000000 in
set_option maxRecDepth 20000 in
theorem law_case_26 {Sim : ctM → ctM → Prop} {p : Program} {l : Launch} {e : Env} {s : State} {m : MethodId} {below : List Frame} {meth : Method} {c : Code} {b L : Nat} {xs : Nat → Int32} {H : Heap} {locs : List Loc} {ls : Array Slot} {D : va_G} {cy : Nat → ClassId} {aK aV : Nat → Nat} (hL : L ≤ 384) (C0 : lw_At p s m meth c b L xs) (K1 : ctK (lB1 l D cy s.heap.size aK aV false) s) (K2 : ctK (lB2 l D cy s.heap.size aK aV false) s) (hop : opS3 Sim fX6_mark fX7_mark) {Mc Mm : ctM} (hs : Sim Mc Mm) {i : Nat} (hi : i + 6 ≤ L) (hl : lv_has ls 4 [(0, .ref b), (1, .ref s.heap.size), (2, .ref (s.heap.size + 149)), (3, .int (nI i))]) (w1 : ctH (lB1 l D cy s.heap.size aK aV false) 149 Mc H) (w2 : ctH (lB2 l D cy s.heap.size aK aV false) 21 Mm H) (S : va_S (fun q : Nat => s.heap.size ≤ q) s.heap H locs)
    (next : ∀ (Mc2 Mm2 : ctM) (H1 : Heap) (locs1 : List Loc), Sim Mc2 Mm2 → ctH (lB1 l D cy s.heap.size aK aV false) 149 Mc2 H1 → ctH (lB2 l D cy s.heap.size aK aV false) 21 Mm2 H1 → va_S (fun q : Nat => s.heap.size ≤ q) s.heap H1 locs1 → W p l e room_1 s m #[Value.ref b] below meth c H1 locs1 600000 7302250 (lw_Z below #[Value.ref b] s) (F0 m 1361 ls [])) : W p l e room_1 s m #[Value.ref b] below meth c H locs 600000 7302250 (lw_Z below #[Value.ref b] s) (F0 m 972 ls []) := by
  obtain ⟨v, Mc2, Mm2, g1, g2, g3⟩ := hop Mc Mm hs (xs (i + 1)) (xs (i + 2)) (xs (i + 3))
  obtain ⟨hx, hb, hr, hml, hown, hts, hX, hbl, hlocks, hgv⟩ := id C0
  have o1 : ctOk (lB1 l D cy s.heap.size aK aV false) kdC lnC 149 := fun a ha => ⟨rfl, rfl, kdC_lt a ha⟩
  have o2 : ctOk (lB2 l D cy s.heap.size aK aV false) kdM lnM 21 := fun a ha => ⟨rfl, rfl, kdM_lt a ha⟩
  refine lv_aload_n hx hb dL_law_972 rfl (lv_at hl 1 rfl) ?_
  refine lw_arg (pc := 973) (t := 1) C0 (by decide) dL_law_973 dL_law_974 dL_law_975 dL_law_976 dL_law_977 hl (by omega) hL S ?_
  refine lw_arg (pc := 978) (t := 2) C0 (by decide) dL_law_978 dL_law_979 dL_law_980 dL_law_981 dL_law_982 hl (by omega) hL S ?_
  refine lw_arg (pc := 983) (t := 3) C0 (by decide) dL_law_983 dL_law_984 dL_law_985 dL_law_986 dL_law_987 hl (by omega) hL S ?_
  refine lw_call (B := lB1 l D cy s.heap.size aK aV false) (pc := 988) (As := [.int (xs (i + 1)), .int (xs (i + 2)), .int (xs (i + 3))]) (rest := []) (ci := 6) C0 K1 (Nat.le_refl _) dL_law_988 lk_RL_121 rfl (by decide) (ctX6_mark o1 g1) rfl (by decide) rfl (by decide) (Nat.le_of_ble_eq_true rfl) (Nat.le_refl _) (Nat.le_refl _) hl.1 w1 S rfl (fun H1 locs1 w1 hz hk S => ?_)
  have w2 : ctH (lB2 l D cy s.heap.size aK aV false) 21 Mm H1 := ⟨w2.1.kept (fun k x hx => by
      have hlt := (w2.1 k x hx).lt
      have hl2 : k < 21 := by
        have := (List.getElem?_eq_some_iff.mp hx).1
        simpa [ctW] using this
      rw [ctW_at hl2] at hx
      cases hx
      exact hk _ hlt (fun z => by have := z.2; simp only [bHi, bLo] at this; omega)), w2.2.1, w2.2.2.1, fun h => by cases h⟩
  refine lv_aload_n hx hb dL_law_991 rfl (lv_at hl 2 rfl) ?_
  refine lw_arg (pc := 992) (t := 1) C0 (by decide) dL_law_992 dL_law_993 dL_law_994 dL_law_995 dL_law_996 hl (by omega) hL S ?_
  refine lw_arg (pc := 997) (t := 2) C0 (by decide) dL_law_997 dL_law_998 dL_law_999 dL_law_1000 dL_law_1001 hl (by omega) hL S ?_
  refine lw_arg (pc := 1002) (t := 3) C0 (by decide) dL_law_1002 dL_law_1003 dL_law_1004 dL_law_1005 dL_law_1006 hl (by omega) hL S ?_
  refine lw_call (B := lB2 l D cy s.heap.size aK aV false) (pc := 1007) (As := [.int (xs (i + 1)), .int (xs (i + 2)), .int (xs (i + 3))]) (rest := [.int v]) (ci := 7) C0 K2 (Nat.le_add_right _ _) dL_law_1007 lk_RL_124 rfl (by decide) (ctX7_mark o2 g2) rfl (by decide) rfl (by decide) (Nat.le_of_ble_eq_true rfl) (Nat.le_refl _) (Nat.le_refl _) hl.1 w2 S rfl (fun H2 locs2 w2 hz2 hk2 S => ?_)
  have w1 : ctH (lB1 l D cy s.heap.size aK aV false) 149 Mc2 H2 := ⟨w1.1.kept (fun k x hx => by
      have hlt := (w1.1 k x hx).lt
      have hl2 : k < 149 := by
        have := (List.getElem?_eq_some_iff.mp hx).1
        simpa [ctW] using this
      rw [ctW_at hl2] at hx
      cases hx
      exact hk2 _ hlt (fun z => by have := z.1; simp only [bHi, bLo] at this; omega)), w1.2.1, w1.2.2.1, fun h => by cases h⟩
  refine lv_icmp_eq (tgt := 1361) hx hb dL_law_1010 (by decide) (fun _ => next Mc2 Mm2 H2 locs2 g3 w1 w2 S) (fun z => absurd rfl z)
set_option maxHeartbeats 4000000 in
set_option maxRecDepth 20000 in
theorem law_case_27 {Sim : ctM → ctM → Prop} {p : Program} {l : Launch} {e : Env} {s : State} {m : MethodId} {below : List Frame} {meth : Method} {c : Code} {b L : Nat} {xs : Nat → Int32} {H : Heap} {locs : List Loc} {ls : Array Slot} {D : va_G} {cy : Nat → ClassId} {aK aV : Nat → Nat} (hL : L ≤ 384) (C0 : lw_At p s m meth c b L xs) (K1 : ctK (lB1 l D cy s.heap.size aK aV false) s) (K2 : ctK (lB2 l D cy s.heap.size aK aV false) s) (hop : opS1 Sim fX6_pour fX7_pour) {Mc Mm : ctM} (hs : Sim Mc Mm) {i : Nat} (hi : i + 6 ≤ L) (hl : lv_has ls 4 [(0, .ref b), (1, .ref s.heap.size), (2, .ref (s.heap.size + 149)), (3, .int (nI i))]) (w1 : ctH (lB1 l D cy s.heap.size aK aV false) 149 Mc H) (w2 : ctH (lB2 l D cy s.heap.size aK aV false) 21 Mm H) (S : va_S (fun q : Nat => s.heap.size ≤ q) s.heap H locs)
    (next : ∀ (Mc2 Mm2 : ctM) (H1 : Heap) (locs1 : List Loc), Sim Mc2 Mm2 → ctH (lB1 l D cy s.heap.size aK aV false) 149 Mc2 H1 → ctH (lB2 l D cy s.heap.size aK aV false) 21 Mm2 H1 → va_S (fun q : Nat => s.heap.size ≤ q) s.heap H1 locs1 → W p l e room_1 s m #[Value.ref b] below meth c H1 locs1 600000 7302250 (lw_Z below #[Value.ref b] s) (F0 m 1361 ls [])) : W p l e room_1 s m #[Value.ref b] below meth c H locs 600000 7302250 (lw_Z below #[Value.ref b] s) (F0 m 1015 ls []) := by
  obtain ⟨v, Mc2, Mm2, g1, g2, g3⟩ := hop Mc Mm hs (xs (i + 1))
  obtain ⟨hx, hb, hr, hml, hown, hts, hX, hbl, hlocks, hgv⟩ := id C0
  have o1 : ctOk (lB1 l D cy s.heap.size aK aV false) kdC lnC 149 := fun a ha => ⟨rfl, rfl, kdC_lt a ha⟩
  have o2 : ctOk (lB2 l D cy s.heap.size aK aV false) kdM lnM 21 := fun a ha => ⟨rfl, rfl, kdM_lt a ha⟩
  refine lv_aload_n hx hb dL_law_1015 rfl (lv_at hl 1 rfl) ?_
  refine lw_arg (pc := 1016) (t := 1) C0 (by decide) dL_law_1016 dL_law_1017 dL_law_1018 dL_law_1019 dL_law_1020 hl (by omega) hL S ?_
  refine lw_call (B := lB1 l D cy s.heap.size aK aV false) (pc := 1021) (As := [.int (xs (i + 1))]) (rest := []) (ci := 6) C0 K1 (Nat.le_refl _) dL_law_1021 lk_RL_125 rfl (by decide) (ctX6_pour o1 g1) rfl (by decide) rfl (by decide) (Nat.le_of_ble_eq_true rfl) (Nat.le_refl _) (Nat.le_refl _) hl.1 w1 S rfl (fun H1 locs1 w1 hz hk S => ?_)
  have w2 : ctH (lB2 l D cy s.heap.size aK aV false) 21 Mm H1 := ⟨w2.1.kept (fun k x hx => by
      have hlt := (w2.1 k x hx).lt
      have hl2 : k < 21 := by
        have := (List.getElem?_eq_some_iff.mp hx).1
        simpa [ctW] using this
      rw [ctW_at hl2] at hx
      cases hx
      exact hk _ hlt (fun z => by have := z.2; simp only [bHi, bLo] at this; omega)), w2.2.1, w2.2.2.1, fun h => by cases h⟩
  refine lv_aload_n hx hb dL_law_1024 rfl (lv_at hl 2 rfl) ?_
  refine lw_arg (pc := 1025) (t := 1) C0 (by decide) dL_law_1025 dL_law_1026 dL_law_1027 dL_law_1028 dL_law_1029 hl (by omega) hL S ?_
  refine lw_call (B := lB2 l D cy s.heap.size aK aV false) (pc := 1030) (As := [.int (xs (i + 1))]) (rest := [.int v]) (ci := 7) C0 K2 (Nat.le_add_right _ _) dL_law_1030 lk_RL_128 rfl (by decide) (ctX7_pour o2 g2) rfl (by decide) rfl (by decide) (Nat.le_of_ble_eq_true rfl) (Nat.le_refl _) (Nat.le_refl _) hl.1 w2 S rfl (fun H2 locs2 w2 hz2 hk2 S => ?_)
  have w1 : ctH (lB1 l D cy s.heap.size aK aV false) 149 Mc2 H2 := ⟨w1.1.kept (fun k x hx => by
      have hlt := (w1.1 k x hx).lt
      have hl2 : k < 149 := by
        have := (List.getElem?_eq_some_iff.mp hx).1
        simpa [ctW] using this
      rw [ctW_at hl2] at hx
      cases hx
      exact hk2 _ hlt (fun z => by have := z.1; simp only [bHi, bLo] at this; omega)), w1.2.1, w1.2.2.1, fun h => by cases h⟩
  refine lv_icmp_eq (tgt := 1361) hx hb dL_law_1033 (by decide) (fun _ => next Mc2 Mm2 H2 locs2 g3 w1 w2 S) (fun z => absurd rfl z)
set_option maxHeartbeats 4000000 in
set_option maxRecDepth 20000 in
theorem law_case_28 {Sim : ctM → ctM → Prop} {p : Program} {l : Launch} {e : Env} {s : State} {m : MethodId} {below : List Frame} {meth : Method} {c : Code} {b L : Nat} {xs : Nat → Int32} {H : Heap} {locs : List Loc} {ls : Array Slot} {D : va_G} {cy : Nat → ClassId} {aK aV : Nat → Nat} (hL : L ≤ 384) (C0 : lw_At p s m meth c b L xs) (K1 : ctK (lB1 l D cy s.heap.size aK aV false) s) (K2 : ctK (lB2 l D cy s.heap.size aK aV false) s) (hop : opS1 Sim fX6_reads fX7_reads) {Mc Mm : ctM} (hs : Sim Mc Mm) {i : Nat} (hi : i + 6 ≤ L) (hl : lv_has ls 4 [(0, .ref b), (1, .ref s.heap.size), (2, .ref (s.heap.size + 149)), (3, .int (nI i))]) (w1 : ctH (lB1 l D cy s.heap.size aK aV false) 149 Mc H) (w2 : ctH (lB2 l D cy s.heap.size aK aV false) 21 Mm H) (S : va_S (fun q : Nat => s.heap.size ≤ q) s.heap H locs)
    (next : ∀ (Mc2 Mm2 : ctM) (H1 : Heap) (locs1 : List Loc), Sim Mc2 Mm2 → ctH (lB1 l D cy s.heap.size aK aV false) 149 Mc2 H1 → ctH (lB2 l D cy s.heap.size aK aV false) 21 Mm2 H1 → va_S (fun q : Nat => s.heap.size ≤ q) s.heap H1 locs1 → W p l e room_1 s m #[Value.ref b] below meth c H1 locs1 600000 7302250 (lw_Z below #[Value.ref b] s) (F0 m 1361 ls [])) : W p l e room_1 s m #[Value.ref b] below meth c H locs 600000 7302250 (lw_Z below #[Value.ref b] s) (F0 m 1038 ls []) := by
  obtain ⟨v, Mc2, Mm2, g1, g2, g3⟩ := hop Mc Mm hs (xs (i + 1))
  obtain ⟨hx, hb, hr, hml, hown, hts, hX, hbl, hlocks, hgv⟩ := id C0
  have o1 : ctOk (lB1 l D cy s.heap.size aK aV false) kdC lnC 149 := fun a ha => ⟨rfl, rfl, kdC_lt a ha⟩
  have o2 : ctOk (lB2 l D cy s.heap.size aK aV false) kdM lnM 21 := fun a ha => ⟨rfl, rfl, kdM_lt a ha⟩
  refine lv_aload_n hx hb dL_law_1038 rfl (lv_at hl 1 rfl) ?_
  refine lw_arg (pc := 1039) (t := 1) C0 (by decide) dL_law_1039 dL_law_1040 dL_law_1041 dL_law_1042 dL_law_1043 hl (by omega) hL S ?_
  refine lw_call (B := lB1 l D cy s.heap.size aK aV false) (pc := 1044) (As := [.int (xs (i + 1))]) (rest := []) (ci := 6) C0 K1 (Nat.le_refl _) dL_law_1044 lk_RL_129 rfl (by decide) (ctX6_reads o1 g1) rfl (by decide) rfl (by decide) (Nat.le_of_ble_eq_true rfl) (Nat.le_refl _) (Nat.le_refl _) hl.1 w1 S rfl (fun H1 locs1 w1 hz hk S => ?_)
  have w2 : ctH (lB2 l D cy s.heap.size aK aV false) 21 Mm H1 := ⟨w2.1.kept (fun k x hx => by
      have hlt := (w2.1 k x hx).lt
      have hl2 : k < 21 := by
        have := (List.getElem?_eq_some_iff.mp hx).1
        simpa [ctW] using this
      rw [ctW_at hl2] at hx
      cases hx
      exact hk _ hlt (fun z => by have := z.2; simp only [bHi, bLo] at this; omega)), w2.2.1, w2.2.2.1, fun h => by cases h⟩
  refine lv_aload_n hx hb dL_law_1047 rfl (lv_at hl 2 rfl) ?_
  refine lw_arg (pc := 1048) (t := 1) C0 (by decide) dL_law_1048 dL_law_1049 dL_law_1050 dL_law_1051 dL_law_1052 hl (by omega) hL S ?_
  refine lw_call (B := lB2 l D cy s.heap.size aK aV false) (pc := 1053) (As := [.int (xs (i + 1))]) (rest := [.int v]) (ci := 7) C0 K2 (Nat.le_add_right _ _) dL_law_1053 lk_RL_132 rfl (by decide) (ctX7_reads o2 g2) rfl (by decide) rfl (by decide) (Nat.le_of_ble_eq_true rfl) (Nat.le_refl _) (Nat.le_refl _) hl.1 w2 S rfl (fun H2 locs2 w2 hz2 hk2 S => ?_)
  have w1 : ctH (lB1 l D cy s.heap.size aK aV false) 149 Mc2 H2 := ⟨w1.1.kept (fun k x hx => by
      have hlt := (w1.1 k x hx).lt
      have hl2 : k < 149 := by
        have := (List.getElem?_eq_some_iff.mp hx).1
        simpa [ctW] using this
      rw [ctW_at hl2] at hx
      cases hx
      exact hk2 _ hlt (fun z => by have := z.1; simp only [bHi, bLo] at this; omega)), w1.2.1, w1.2.2.1, fun h => by cases h⟩
  refine lv_icmp_eq (tgt := 1361) hx hb dL_law_1056 (by decide) (fun _ => next Mc2 Mm2 H2 locs2 g3 w1 w2 S) (fun z => absurd rfl z)
set_option maxHeartbeats 4000000 in
set_option maxRecDepth 20000 in
theorem law_case_29 {Sim : ctM → ctM → Prop} {p : Program} {l : Launch} {e : Env} {s : State} {m : MethodId} {below : List Frame} {meth : Method} {c : Code} {b L : Nat} {xs : Nat → Int32} {H : Heap} {locs : List Loc} {ls : Array Slot} {D : va_G} {cy : Nat → ClassId} {aK aV : Nat → Nat} (hL : L ≤ 384) (C0 : lw_At p s m meth c b L xs) (K1 : ctK (lB1 l D cy s.heap.size aK aV false) s) (K2 : ctK (lB2 l D cy s.heap.size aK aV false) s) (hop : opS5 Sim fX6_copy fX7_copy) {Mc Mm : ctM} (hs : Sim Mc Mm) {i : Nat} (hi : i + 6 ≤ L) (hl : lv_has ls 4 [(0, .ref b), (1, .ref s.heap.size), (2, .ref (s.heap.size + 149)), (3, .int (nI i))]) (w1 : ctH (lB1 l D cy s.heap.size aK aV false) 149 Mc H) (w2 : ctH (lB2 l D cy s.heap.size aK aV false) 21 Mm H) (S : va_S (fun q : Nat => s.heap.size ≤ q) s.heap H locs)
    (next : ∀ (Mc2 Mm2 : ctM) (H1 : Heap) (locs1 : List Loc), Sim Mc2 Mm2 → ctH (lB1 l D cy s.heap.size aK aV false) 149 Mc2 H1 → ctH (lB2 l D cy s.heap.size aK aV false) 21 Mm2 H1 → va_S (fun q : Nat => s.heap.size ≤ q) s.heap H1 locs1 → W p l e room_1 s m #[Value.ref b] below meth c H1 locs1 600000 7302250 (lw_Z below #[Value.ref b] s) (F0 m 1361 ls [])) : W p l e room_1 s m #[Value.ref b] below meth c H locs 600000 7302250 (lw_Z below #[Value.ref b] s) (F0 m 1061 ls []) := by
  obtain ⟨v, Mc2, Mm2, g1, g2, g3⟩ := hop Mc Mm hs (xs (i + 1)) (xs (i + 2)) (xs (i + 3)) (xs (i + 4)) (xs (i + 5))
  obtain ⟨hx, hb, hr, hml, hown, hts, hX, hbl, hlocks, hgv⟩ := id C0
  have o1 : ctOk (lB1 l D cy s.heap.size aK aV false) kdC lnC 149 := fun a ha => ⟨rfl, rfl, kdC_lt a ha⟩
  have o2 : ctOk (lB2 l D cy s.heap.size aK aV false) kdM lnM 21 := fun a ha => ⟨rfl, rfl, kdM_lt a ha⟩
  refine lv_aload_n hx hb dL_law_1061 rfl (lv_at hl 1 rfl) ?_
  refine lw_arg (pc := 1062) (t := 1) C0 (by decide) dL_law_1062 dL_law_1063 dL_law_1064 dL_law_1065 dL_law_1066 hl (by omega) hL S ?_
  refine lw_arg (pc := 1067) (t := 2) C0 (by decide) dL_law_1067 dL_law_1068 dL_law_1069 dL_law_1070 dL_law_1071 hl (by omega) hL S ?_
  refine lw_arg (pc := 1072) (t := 3) C0 (by decide) dL_law_1072 dL_law_1073 dL_law_1074 dL_law_1075 dL_law_1076 hl (by omega) hL S ?_
  refine lw_arg (pc := 1077) (t := 4) C0 (by decide) dL_law_1077 dL_law_1078 dL_law_1079 dL_law_1080 dL_law_1081 hl (by omega) hL S ?_
  refine lw_arg (pc := 1082) (t := 5) C0 (by decide) dL_law_1082 dL_law_1083 dL_law_1084 dL_law_1085 dL_law_1086 hl (by omega) hL S ?_
  refine lw_call (B := lB1 l D cy s.heap.size aK aV false) (pc := 1087) (As := [.int (xs (i + 1)), .int (xs (i + 2)), .int (xs (i + 3)), .int (xs (i + 4)), .int (xs (i + 5))]) (rest := []) (ci := 6) C0 K1 (Nat.le_refl _) dL_law_1087 lk_RL_133 rfl (by decide) (ctX6_copy o1 rfl g1) rfl (by decide) rfl (by decide) (Nat.le_of_ble_eq_true rfl) (Nat.le_refl _) (Nat.le_refl _) hl.1 w1 S rfl (fun H1 locs1 w1 hz hk S => ?_)
  have w2 : ctH (lB2 l D cy s.heap.size aK aV false) 21 Mm H1 := ⟨w2.1.kept (fun k x hx => by
      have hlt := (w2.1 k x hx).lt
      have hl2 : k < 21 := by
        have := (List.getElem?_eq_some_iff.mp hx).1
        simpa [ctW] using this
      rw [ctW_at hl2] at hx
      cases hx
      exact hk _ hlt (fun z => by have := z.2; simp only [bHi, bLo] at this; omega)), w2.2.1, w2.2.2.1, fun h => by cases h⟩
  refine lv_aload_n hx hb dL_law_1090 rfl (lv_at hl 2 rfl) ?_
  refine lw_arg (pc := 1091) (t := 1) C0 (by decide) dL_law_1091 dL_law_1092 dL_law_1093 dL_law_1094 dL_law_1095 hl (by omega) hL S ?_
  refine lw_arg (pc := 1096) (t := 2) C0 (by decide) dL_law_1096 dL_law_1097 dL_law_1098 dL_law_1099 dL_law_1100 hl (by omega) hL S ?_
  refine lw_arg (pc := 1101) (t := 3) C0 (by decide) dL_law_1101 dL_law_1102 dL_law_1103 dL_law_1104 dL_law_1105 hl (by omega) hL S ?_
  refine lw_arg (pc := 1106) (t := 4) C0 (by decide) dL_law_1106 dL_law_1107 dL_law_1108 dL_law_1109 dL_law_1110 hl (by omega) hL S ?_
  refine lw_arg (pc := 1111) (t := 5) C0 (by decide) dL_law_1111 dL_law_1112 dL_law_1113 dL_law_1114 dL_law_1115 hl (by omega) hL S ?_
  refine lw_call (B := lB2 l D cy s.heap.size aK aV false) (pc := 1116) (As := [.int (xs (i + 1)), .int (xs (i + 2)), .int (xs (i + 3)), .int (xs (i + 4)), .int (xs (i + 5))]) (rest := [.int v]) (ci := 7) C0 K2 (Nat.le_add_right _ _) dL_law_1116 lk_RL_137 rfl (by decide) (ctX7_copy o2 g2) rfl (by decide) rfl (by decide) (Nat.le_of_ble_eq_true rfl) (Nat.le_refl _) (Nat.le_refl _) hl.1 w2 S rfl (fun H2 locs2 w2 hz2 hk2 S => ?_)
  have w1 : ctH (lB1 l D cy s.heap.size aK aV false) 149 Mc2 H2 := ⟨w1.1.kept (fun k x hx => by
      have hlt := (w1.1 k x hx).lt
      have hl2 : k < 149 := by
        have := (List.getElem?_eq_some_iff.mp hx).1
        simpa [ctW] using this
      rw [ctW_at hl2] at hx
      cases hx
      exact hk2 _ hlt (fun z => by have := z.1; simp only [bHi, bLo] at this; omega)), w1.2.1, w1.2.2.1, fun h => by cases h⟩
  refine lv_icmp_eq (tgt := 1361) hx hb dL_law_1119 (by decide) (fun _ => next Mc2 Mm2 H2 locs2 g3 w1 w2 S) (fun z => absurd rfl z)
set_option maxHeartbeats 4000000 in
set_option maxRecDepth 20000 in
theorem law_case_30 {Sim : ctM → ctM → Prop} {p : Program} {l : Launch} {e : Env} {s : State} {m : MethodId} {below : List Frame} {meth : Method} {c : Code} {b L : Nat} {xs : Nat → Int32} {H : Heap} {locs : List Loc} {ls : Array Slot} {D : va_G} {cy : Nat → ClassId} {aK aV : Nat → Nat} (hL : L ≤ 384) (C0 : lw_At p s m meth c b L xs) (K1 : ctK (lB1 l D cy s.heap.size aK aV false) s) (K2 : ctK (lB2 l D cy s.heap.size aK aV false) s) (hop : opS3 Sim fX6_lay fX7_lay) {Mc Mm : ctM} (hs : Sim Mc Mm) {i : Nat} (hi : i + 6 ≤ L) (hl : lv_has ls 4 [(0, .ref b), (1, .ref s.heap.size), (2, .ref (s.heap.size + 149)), (3, .int (nI i))]) (w1 : ctH (lB1 l D cy s.heap.size aK aV false) 149 Mc H) (w2 : ctH (lB2 l D cy s.heap.size aK aV false) 21 Mm H) (S : va_S (fun q : Nat => s.heap.size ≤ q) s.heap H locs)
    (next : ∀ (Mc2 Mm2 : ctM) (H1 : Heap) (locs1 : List Loc), Sim Mc2 Mm2 → ctH (lB1 l D cy s.heap.size aK aV false) 149 Mc2 H1 → ctH (lB2 l D cy s.heap.size aK aV false) 21 Mm2 H1 → va_S (fun q : Nat => s.heap.size ≤ q) s.heap H1 locs1 → W p l e room_1 s m #[Value.ref b] below meth c H1 locs1 600000 7302250 (lw_Z below #[Value.ref b] s) (F0 m 1361 ls [])) : W p l e room_1 s m #[Value.ref b] below meth c H locs 600000 7302250 (lw_Z below #[Value.ref b] s) (F0 m 1124 ls []) := by
  obtain ⟨v, Mc2, Mm2, g1, g2, g3⟩ := hop Mc Mm hs (xs (i + 1)) (xs (i + 2)) (xs (i + 3))
  obtain ⟨hx, hb, hr, hml, hown, hts, hX, hbl, hlocks, hgv⟩ := id C0
  have o1 : ctOk (lB1 l D cy s.heap.size aK aV false) kdC lnC 149 := fun a ha => ⟨rfl, rfl, kdC_lt a ha⟩
  have o2 : ctOk (lB2 l D cy s.heap.size aK aV false) kdM lnM 21 := fun a ha => ⟨rfl, rfl, kdM_lt a ha⟩
  refine lv_aload_n hx hb dL_law_1124 rfl (lv_at hl 1 rfl) ?_
  refine lw_arg (pc := 1125) (t := 1) C0 (by decide) dL_law_1125 dL_law_1126 dL_law_1127 dL_law_1128 dL_law_1129 hl (by omega) hL S ?_
  refine lw_arg (pc := 1130) (t := 2) C0 (by decide) dL_law_1130 dL_law_1131 dL_law_1132 dL_law_1133 dL_law_1134 hl (by omega) hL S ?_
  refine lw_arg (pc := 1135) (t := 3) C0 (by decide) dL_law_1135 dL_law_1136 dL_law_1137 dL_law_1138 dL_law_1139 hl (by omega) hL S ?_
  refine lw_call (B := lB1 l D cy s.heap.size aK aV false) (pc := 1140) (As := [.int (xs (i + 1)), .int (xs (i + 2)), .int (xs (i + 3))]) (rest := []) (ci := 6) C0 K1 (Nat.le_refl _) dL_law_1140 lk_RL_138 rfl (by decide) (ctX6_lay o1 g1) rfl (by decide) rfl (by decide) (Nat.le_of_ble_eq_true rfl) (Nat.le_refl _) (Nat.le_refl _) hl.1 w1 S rfl (fun H1 locs1 w1 hz hk S => ?_)
  have w2 : ctH (lB2 l D cy s.heap.size aK aV false) 21 Mm H1 := ⟨w2.1.kept (fun k x hx => by
      have hlt := (w2.1 k x hx).lt
      have hl2 : k < 21 := by
        have := (List.getElem?_eq_some_iff.mp hx).1
        simpa [ctW] using this
      rw [ctW_at hl2] at hx
      cases hx
      exact hk _ hlt (fun z => by have := z.2; simp only [bHi, bLo] at this; omega)), w2.2.1, w2.2.2.1, fun h => by cases h⟩
  refine lv_aload_n hx hb dL_law_1143 rfl (lv_at hl 2 rfl) ?_
  refine lw_arg (pc := 1144) (t := 1) C0 (by decide) dL_law_1144 dL_law_1145 dL_law_1146 dL_law_1147 dL_law_1148 hl (by omega) hL S ?_
  refine lw_arg (pc := 1149) (t := 2) C0 (by decide) dL_law_1149 dL_law_1150 dL_law_1151 dL_law_1152 dL_law_1153 hl (by omega) hL S ?_
  refine lw_arg (pc := 1154) (t := 3) C0 (by decide) dL_law_1154 dL_law_1155 dL_law_1156 dL_law_1157 dL_law_1158 hl (by omega) hL S ?_
  refine lw_call (B := lB2 l D cy s.heap.size aK aV false) (pc := 1159) (As := [.int (xs (i + 1)), .int (xs (i + 2)), .int (xs (i + 3))]) (rest := [.int v]) (ci := 7) C0 K2 (Nat.le_add_right _ _) dL_law_1159 lk_RL_141 rfl (by decide) (ctX7_lay o2 g2) rfl (by decide) rfl (by decide) (Nat.le_of_ble_eq_true rfl) (Nat.le_refl _) (Nat.le_refl _) hl.1 w2 S rfl (fun H2 locs2 w2 hz2 hk2 S => ?_)
  have w1 : ctH (lB1 l D cy s.heap.size aK aV false) 149 Mc2 H2 := ⟨w1.1.kept (fun k x hx => by
      have hlt := (w1.1 k x hx).lt
      have hl2 : k < 149 := by
        have := (List.getElem?_eq_some_iff.mp hx).1
        simpa [ctW] using this
      rw [ctW_at hl2] at hx
      cases hx
      exact hk2 _ hlt (fun z => by have := z.1; simp only [bHi, bLo] at this; omega)), w1.2.1, w1.2.2.1, fun h => by cases h⟩
  refine lv_icmp_eq (tgt := 1361) hx hb dL_law_1162 (by decide) (fun _ => next Mc2 Mm2 H2 locs2 g3 w1 w2 S) (fun z => absurd rfl z)
set_option maxHeartbeats 4000000 in
set_option maxRecDepth 20000 in
theorem law_case_31 {Sim : ctM → ctM → Prop} {p : Program} {l : Launch} {e : Env} {s : State} {m : MethodId} {below : List Frame} {meth : Method} {c : Code} {b L : Nat} {xs : Nat → Int32} {H : Heap} {locs : List Loc} {ls : Array Slot} {D : va_G} {cy : Nat → ClassId} {aK aV : Nat → Nat} (hL : L ≤ 384) (C0 : lw_At p s m meth c b L xs) (K1 : ctK (lB1 l D cy s.heap.size aK aV false) s) (K2 : ctK (lB2 l D cy s.heap.size aK aV false) s) (hop : opS2 Sim fX6_ask fX7_ask) {Mc Mm : ctM} (hs : Sim Mc Mm) {i : Nat} (hi : i + 6 ≤ L) (hl : lv_has ls 4 [(0, .ref b), (1, .ref s.heap.size), (2, .ref (s.heap.size + 149)), (3, .int (nI i))]) (w1 : ctH (lB1 l D cy s.heap.size aK aV false) 149 Mc H) (w2 : ctH (lB2 l D cy s.heap.size aK aV false) 21 Mm H) (S : va_S (fun q : Nat => s.heap.size ≤ q) s.heap H locs)
    (next : ∀ (Mc2 Mm2 : ctM) (H1 : Heap) (locs1 : List Loc), Sim Mc2 Mm2 → ctH (lB1 l D cy s.heap.size aK aV false) 149 Mc2 H1 → ctH (lB2 l D cy s.heap.size aK aV false) 21 Mm2 H1 → va_S (fun q : Nat => s.heap.size ≤ q) s.heap H1 locs1 → W p l e room_1 s m #[Value.ref b] below meth c H1 locs1 600000 7302250 (lw_Z below #[Value.ref b] s) (F0 m 1361 ls [])) : W p l e room_1 s m #[Value.ref b] below meth c H locs 600000 7302250 (lw_Z below #[Value.ref b] s) (F0 m 1167 ls []) := by
  obtain ⟨v, Mc2, Mm2, g1, g2, g3⟩ := hop Mc Mm hs (xs (i + 1)) (xs (i + 2))
  obtain ⟨hx, hb, hr, hml, hown, hts, hX, hbl, hlocks, hgv⟩ := id C0
  have o1 : ctOk (lB1 l D cy s.heap.size aK aV false) kdC lnC 149 := fun a ha => ⟨rfl, rfl, kdC_lt a ha⟩
  have o2 : ctOk (lB2 l D cy s.heap.size aK aV false) kdM lnM 21 := fun a ha => ⟨rfl, rfl, kdM_lt a ha⟩
  refine lv_aload_n hx hb dL_law_1167 rfl (lv_at hl 1 rfl) ?_
  refine lw_arg (pc := 1168) (t := 1) C0 (by decide) dL_law_1168 dL_law_1169 dL_law_1170 dL_law_1171 dL_law_1172 hl (by omega) hL S ?_
  refine lw_arg (pc := 1173) (t := 2) C0 (by decide) dL_law_1173 dL_law_1174 dL_law_1175 dL_law_1176 dL_law_1177 hl (by omega) hL S ?_
  refine lw_call (B := lB1 l D cy s.heap.size aK aV false) (pc := 1178) (As := [.int (xs (i + 1)), .int (xs (i + 2))]) (rest := []) (ci := 6) C0 K1 (Nat.le_refl _) dL_law_1178 lk_RL_142 rfl (by decide) (ctX6_ask o1 g1) rfl (by decide) rfl (by decide) (Nat.le_of_ble_eq_true rfl) (Nat.le_refl _) (Nat.le_refl _) hl.1 w1 S rfl (fun H1 locs1 w1 hz hk S => ?_)
  have w2 : ctH (lB2 l D cy s.heap.size aK aV false) 21 Mm H1 := ⟨w2.1.kept (fun k x hx => by
      have hlt := (w2.1 k x hx).lt
      have hl2 : k < 21 := by
        have := (List.getElem?_eq_some_iff.mp hx).1
        simpa [ctW] using this
      rw [ctW_at hl2] at hx
      cases hx
      exact hk _ hlt (fun z => by have := z.2; simp only [bHi, bLo] at this; omega)), w2.2.1, w2.2.2.1, fun h => by cases h⟩
  refine lv_aload_n hx hb dL_law_1181 rfl (lv_at hl 2 rfl) ?_
  refine lw_arg (pc := 1182) (t := 1) C0 (by decide) dL_law_1182 dL_law_1183 dL_law_1184 dL_law_1185 dL_law_1186 hl (by omega) hL S ?_
  refine lw_arg (pc := 1187) (t := 2) C0 (by decide) dL_law_1187 dL_law_1188 dL_law_1189 dL_law_1190 dL_law_1191 hl (by omega) hL S ?_
  refine lw_call (B := lB2 l D cy s.heap.size aK aV false) (pc := 1192) (As := [.int (xs (i + 1)), .int (xs (i + 2))]) (rest := [.int v]) (ci := 7) C0 K2 (Nat.le_add_right _ _) dL_law_1192 lk_RL_145 rfl (by decide) (ctX7_ask o2 g2) rfl (by decide) rfl (by decide) (Nat.le_of_ble_eq_true rfl) (Nat.le_refl _) (Nat.le_refl _) hl.1 w2 S rfl (fun H2 locs2 w2 hz2 hk2 S => ?_)
  have w1 : ctH (lB1 l D cy s.heap.size aK aV false) 149 Mc2 H2 := ⟨w1.1.kept (fun k x hx => by
      have hlt := (w1.1 k x hx).lt
      have hl2 : k < 149 := by
        have := (List.getElem?_eq_some_iff.mp hx).1
        simpa [ctW] using this
      rw [ctW_at hl2] at hx
      cases hx
      exact hk2 _ hlt (fun z => by have := z.1; simp only [bHi, bLo] at this; omega)), w1.2.1, w1.2.2.1, fun h => by cases h⟩
  refine lv_icmp_eq (tgt := 1361) hx hb dL_law_1195 (by decide) (fun _ => next Mc2 Mm2 H2 locs2 g3 w1 w2 S) (fun z => absurd rfl z)
set_option maxHeartbeats 4000000 in
set_option maxRecDepth 20000 in
theorem law_case_32 {Sim : ctM → ctM → Prop} {p : Program} {l : Launch} {e : Env} {s : State} {m : MethodId} {below : List Frame} {meth : Method} {c : Code} {b L : Nat} {xs : Nat → Int32} {H : Heap} {locs : List Loc} {ls : Array Slot} {D : va_G} {cy : Nat → ClassId} {aK aV : Nat → Nat} (hL : L ≤ 384) (C0 : lw_At p s m meth c b L xs) (K1 : ctK (lB1 l D cy s.heap.size aK aV false) s) (K2 : ctK (lB2 l D cy s.heap.size aK aV false) s) (hop : opS2 Sim fX6_item fX7_item) {Mc Mm : ctM} (hs : Sim Mc Mm) {i : Nat} (hi : i + 6 ≤ L) (hl : lv_has ls 4 [(0, .ref b), (1, .ref s.heap.size), (2, .ref (s.heap.size + 149)), (3, .int (nI i))]) (w1 : ctH (lB1 l D cy s.heap.size aK aV false) 149 Mc H) (w2 : ctH (lB2 l D cy s.heap.size aK aV false) 21 Mm H) (S : va_S (fun q : Nat => s.heap.size ≤ q) s.heap H locs)
    (next : ∀ (Mc2 Mm2 : ctM) (H1 : Heap) (locs1 : List Loc), Sim Mc2 Mm2 → ctH (lB1 l D cy s.heap.size aK aV false) 149 Mc2 H1 → ctH (lB2 l D cy s.heap.size aK aV false) 21 Mm2 H1 → va_S (fun q : Nat => s.heap.size ≤ q) s.heap H1 locs1 → W p l e room_1 s m #[Value.ref b] below meth c H1 locs1 600000 7302250 (lw_Z below #[Value.ref b] s) (F0 m 1361 ls [])) : W p l e room_1 s m #[Value.ref b] below meth c H locs 600000 7302250 (lw_Z below #[Value.ref b] s) (F0 m 1200 ls []) := by
  obtain ⟨v, Mc2, Mm2, g1, g2, g3⟩ := hop Mc Mm hs (xs (i + 1)) (xs (i + 2))
  obtain ⟨hx, hb, hr, hml, hown, hts, hX, hbl, hlocks, hgv⟩ := id C0
  have o1 : ctOk (lB1 l D cy s.heap.size aK aV false) kdC lnC 149 := fun a ha => ⟨rfl, rfl, kdC_lt a ha⟩
  have o2 : ctOk (lB2 l D cy s.heap.size aK aV false) kdM lnM 21 := fun a ha => ⟨rfl, rfl, kdM_lt a ha⟩
  refine lv_aload_n hx hb dL_law_1200 rfl (lv_at hl 1 rfl) ?_
  refine lw_arg (pc := 1201) (t := 1) C0 (by decide) dL_law_1201 dL_law_1202 dL_law_1203 dL_law_1204 dL_law_1205 hl (by omega) hL S ?_
  refine lw_arg (pc := 1206) (t := 2) C0 (by decide) dL_law_1206 dL_law_1207 dL_law_1208 dL_law_1209 dL_law_1210 hl (by omega) hL S ?_
  refine lw_call (B := lB1 l D cy s.heap.size aK aV false) (pc := 1211) (As := [.int (xs (i + 1)), .int (xs (i + 2))]) (rest := []) (ci := 6) C0 K1 (Nat.le_refl _) dL_law_1211 lk_RL_146 rfl (by decide) (ctX6_item o1 g1) rfl (by decide) rfl (by decide) (Nat.le_of_ble_eq_true rfl) (Nat.le_refl _) (Nat.le_refl _) hl.1 w1 S rfl (fun H1 locs1 w1 hz hk S => ?_)
  have w2 : ctH (lB2 l D cy s.heap.size aK aV false) 21 Mm H1 := ⟨w2.1.kept (fun k x hx => by
      have hlt := (w2.1 k x hx).lt
      have hl2 : k < 21 := by
        have := (List.getElem?_eq_some_iff.mp hx).1
        simpa [ctW] using this
      rw [ctW_at hl2] at hx
      cases hx
      exact hk _ hlt (fun z => by have := z.2; simp only [bHi, bLo] at this; omega)), w2.2.1, w2.2.2.1, fun h => by cases h⟩
  refine lv_aload_n hx hb dL_law_1214 rfl (lv_at hl 2 rfl) ?_
  refine lw_arg (pc := 1215) (t := 1) C0 (by decide) dL_law_1215 dL_law_1216 dL_law_1217 dL_law_1218 dL_law_1219 hl (by omega) hL S ?_
  refine lw_arg (pc := 1220) (t := 2) C0 (by decide) dL_law_1220 dL_law_1221 dL_law_1222 dL_law_1223 dL_law_1224 hl (by omega) hL S ?_
  refine lw_call (B := lB2 l D cy s.heap.size aK aV false) (pc := 1225) (As := [.int (xs (i + 1)), .int (xs (i + 2))]) (rest := [.int v]) (ci := 7) C0 K2 (Nat.le_add_right _ _) dL_law_1225 lk_RL_149 rfl (by decide) (ctX7_item o2 g2) rfl (by decide) rfl (by decide) (Nat.le_of_ble_eq_true rfl) (Nat.le_refl _) (Nat.le_refl _) hl.1 w2 S rfl (fun H2 locs2 w2 hz2 hk2 S => ?_)
  have w1 : ctH (lB1 l D cy s.heap.size aK aV false) 149 Mc2 H2 := ⟨w1.1.kept (fun k x hx => by
      have hlt := (w1.1 k x hx).lt
      have hl2 : k < 149 := by
        have := (List.getElem?_eq_some_iff.mp hx).1
        simpa [ctW] using this
      rw [ctW_at hl2] at hx
      cases hx
      exact hk2 _ hlt (fun z => by have := z.1; simp only [bHi, bLo] at this; omega)), w1.2.1, w1.2.2.1, fun h => by cases h⟩
  refine lv_icmp_eq (tgt := 1361) hx hb dL_law_1228 (by decide) (fun _ => next Mc2 Mm2 H2 locs2 g3 w1 w2 S) (fun z => absurd rfl z)
set_option maxHeartbeats 4000000 in
set_option maxRecDepth 20000 in
theorem law_case_33 {Sim : ctM → ctM → Prop} {p : Program} {l : Launch} {e : Env} {s : State} {m : MethodId} {below : List Frame} {meth : Method} {c : Code} {b L : Nat} {xs : Nat → Int32} {H : Heap} {locs : List Loc} {ls : Array Slot} {D : va_G} {cy : Nat → ClassId} {aK aV : Nat → Nat} (hL : L ≤ 384) (C0 : lw_At p s m meth c b L xs) (K1 : ctK (lB1 l D cy s.heap.size aK aV false) s) (K2 : ctK (lB2 l D cy s.heap.size aK aV false) s) (hop : opS2 Sim fX6_rest fX7_rest) {Mc Mm : ctM} (hs : Sim Mc Mm) {i : Nat} (hi : i + 6 ≤ L) (hl : lv_has ls 4 [(0, .ref b), (1, .ref s.heap.size), (2, .ref (s.heap.size + 149)), (3, .int (nI i))]) (w1 : ctH (lB1 l D cy s.heap.size aK aV false) 149 Mc H) (w2 : ctH (lB2 l D cy s.heap.size aK aV false) 21 Mm H) (S : va_S (fun q : Nat => s.heap.size ≤ q) s.heap H locs)
    (next : ∀ (Mc2 Mm2 : ctM) (H1 : Heap) (locs1 : List Loc), Sim Mc2 Mm2 → ctH (lB1 l D cy s.heap.size aK aV false) 149 Mc2 H1 → ctH (lB2 l D cy s.heap.size aK aV false) 21 Mm2 H1 → va_S (fun q : Nat => s.heap.size ≤ q) s.heap H1 locs1 → W p l e room_1 s m #[Value.ref b] below meth c H1 locs1 600000 7302250 (lw_Z below #[Value.ref b] s) (F0 m 1361 ls [])) : W p l e room_1 s m #[Value.ref b] below meth c H locs 600000 7302250 (lw_Z below #[Value.ref b] s) (F0 m 1233 ls []) := by
  obtain ⟨v, Mc2, Mm2, g1, g2, g3⟩ := hop Mc Mm hs (xs (i + 1)) (xs (i + 2))
  obtain ⟨hx, hb, hr, hml, hown, hts, hX, hbl, hlocks, hgv⟩ := id C0
  have o1 : ctOk (lB1 l D cy s.heap.size aK aV false) kdC lnC 149 := fun a ha => ⟨rfl, rfl, kdC_lt a ha⟩
  have o2 : ctOk (lB2 l D cy s.heap.size aK aV false) kdM lnM 21 := fun a ha => ⟨rfl, rfl, kdM_lt a ha⟩
  refine lv_aload_n hx hb dL_law_1233 rfl (lv_at hl 1 rfl) ?_
  refine lw_arg (pc := 1234) (t := 1) C0 (by decide) dL_law_1234 dL_law_1235 dL_law_1236 dL_law_1237 dL_law_1238 hl (by omega) hL S ?_
  refine lw_arg (pc := 1239) (t := 2) C0 (by decide) dL_law_1239 dL_law_1240 dL_law_1241 dL_law_1242 dL_law_1243 hl (by omega) hL S ?_
  refine lw_call (B := lB1 l D cy s.heap.size aK aV false) (pc := 1244) (As := [.int (xs (i + 1)), .int (xs (i + 2))]) (rest := []) (ci := 6) C0 K1 (Nat.le_refl _) dL_law_1244 lk_RL_150 rfl (by decide) (ctX6_rest o1 g1) rfl (by decide) rfl (by decide) (Nat.le_of_ble_eq_true rfl) (Nat.le_refl _) (Nat.le_refl _) hl.1 w1 S rfl (fun H1 locs1 w1 hz hk S => ?_)
  have w2 : ctH (lB2 l D cy s.heap.size aK aV false) 21 Mm H1 := ⟨w2.1.kept (fun k x hx => by
      have hlt := (w2.1 k x hx).lt
      have hl2 : k < 21 := by
        have := (List.getElem?_eq_some_iff.mp hx).1
        simpa [ctW] using this
      rw [ctW_at hl2] at hx
      cases hx
      exact hk _ hlt (fun z => by have := z.2; simp only [bHi, bLo] at this; omega)), w2.2.1, w2.2.2.1, fun h => by cases h⟩
  refine lv_aload_n hx hb dL_law_1247 rfl (lv_at hl 2 rfl) ?_
  refine lw_arg (pc := 1248) (t := 1) C0 (by decide) dL_law_1248 dL_law_1249 dL_law_1250 dL_law_1251 dL_law_1252 hl (by omega) hL S ?_
  refine lw_arg (pc := 1253) (t := 2) C0 (by decide) dL_law_1253 dL_law_1254 dL_law_1255 dL_law_1256 dL_law_1257 hl (by omega) hL S ?_
  refine lw_call (B := lB2 l D cy s.heap.size aK aV false) (pc := 1258) (As := [.int (xs (i + 1)), .int (xs (i + 2))]) (rest := [.int v]) (ci := 7) C0 K2 (Nat.le_add_right _ _) dL_law_1258 lk_RL_153 rfl (by decide) (ctX7_rest o2 g2) rfl (by decide) rfl (by decide) (Nat.le_of_ble_eq_true rfl) (Nat.le_refl _) (Nat.le_refl _) hl.1 w2 S rfl (fun H2 locs2 w2 hz2 hk2 S => ?_)
  have w1 : ctH (lB1 l D cy s.heap.size aK aV false) 149 Mc2 H2 := ⟨w1.1.kept (fun k x hx => by
      have hlt := (w1.1 k x hx).lt
      have hl2 : k < 149 := by
        have := (List.getElem?_eq_some_iff.mp hx).1
        simpa [ctW] using this
      rw [ctW_at hl2] at hx
      cases hx
      exact hk2 _ hlt (fun z => by have := z.1; simp only [bHi, bLo] at this; omega)), w1.2.1, w1.2.2.1, fun h => by cases h⟩
  refine lv_icmp_eq (tgt := 1361) hx hb dL_law_1261 (by decide) (fun _ => next Mc2 Mm2 H2 locs2 g3 w1 w2 S) (fun z => absurd rfl z)
set_option maxHeartbeats 4000000 in
set_option maxRecDepth 20000 in
theorem law_case_34 {Sim : ctM → ctM → Prop} {p : Program} {l : Launch} {e : Env} {s : State} {m : MethodId} {below : List Frame} {meth : Method} {c : Code} {b L : Nat} {xs : Nat → Int32} {H : Heap} {locs : List Loc} {ls : Array Slot} {D : va_G} {cy : Nat → ClassId} {aK aV : Nat → Nat} (hL : L ≤ 384) (C0 : lw_At p s m meth c b L xs) (K1 : ctK (lB1 l D cy s.heap.size aK aV false) s) (K2 : ctK (lB2 l D cy s.heap.size aK aV false) s) (hop : opS1 Sim fX6_tell fX7_tell) {Mc Mm : ctM} (hs : Sim Mc Mm) {i : Nat} (hi : i + 6 ≤ L) (hl : lv_has ls 4 [(0, .ref b), (1, .ref s.heap.size), (2, .ref (s.heap.size + 149)), (3, .int (nI i))]) (w1 : ctH (lB1 l D cy s.heap.size aK aV false) 149 Mc H) (w2 : ctH (lB2 l D cy s.heap.size aK aV false) 21 Mm H) (S : va_S (fun q : Nat => s.heap.size ≤ q) s.heap H locs)
    (next : ∀ (Mc2 Mm2 : ctM) (H1 : Heap) (locs1 : List Loc), Sim Mc2 Mm2 → ctH (lB1 l D cy s.heap.size aK aV false) 149 Mc2 H1 → ctH (lB2 l D cy s.heap.size aK aV false) 21 Mm2 H1 → va_S (fun q : Nat => s.heap.size ≤ q) s.heap H1 locs1 → W p l e room_1 s m #[Value.ref b] below meth c H1 locs1 600000 7302250 (lw_Z below #[Value.ref b] s) (F0 m 1361 ls [])) : W p l e room_1 s m #[Value.ref b] below meth c H locs 600000 7302250 (lw_Z below #[Value.ref b] s) (F0 m 1266 ls []) := by
  obtain ⟨v, Mc2, Mm2, g1, g2, g3⟩ := hop Mc Mm hs (xs (i + 1))
  obtain ⟨hx, hb, hr, hml, hown, hts, hX, hbl, hlocks, hgv⟩ := id C0
  have o1 : ctOk (lB1 l D cy s.heap.size aK aV false) kdC lnC 149 := fun a ha => ⟨rfl, rfl, kdC_lt a ha⟩
  have o2 : ctOk (lB2 l D cy s.heap.size aK aV false) kdM lnM 21 := fun a ha => ⟨rfl, rfl, kdM_lt a ha⟩
  refine lv_aload_n hx hb dL_law_1266 rfl (lv_at hl 1 rfl) ?_
  refine lw_arg (pc := 1267) (t := 1) C0 (by decide) dL_law_1267 dL_law_1268 dL_law_1269 dL_law_1270 dL_law_1271 hl (by omega) hL S ?_
  refine lw_call (B := lB1 l D cy s.heap.size aK aV false) (pc := 1272) (As := [.int (xs (i + 1))]) (rest := []) (ci := 6) C0 K1 (Nat.le_refl _) dL_law_1272 lk_RL_154 rfl (by decide) (ctX6_tell o1 g1) rfl (by decide) rfl (by decide) (Nat.le_of_ble_eq_true rfl) (Nat.le_refl _) (Nat.le_refl _) hl.1 w1 S rfl (fun H1 locs1 w1 hz hk S => ?_)
  have w2 : ctH (lB2 l D cy s.heap.size aK aV false) 21 Mm H1 := ⟨w2.1.kept (fun k x hx => by
      have hlt := (w2.1 k x hx).lt
      have hl2 : k < 21 := by
        have := (List.getElem?_eq_some_iff.mp hx).1
        simpa [ctW] using this
      rw [ctW_at hl2] at hx
      cases hx
      exact hk _ hlt (fun z => by have := z.2; simp only [bHi, bLo] at this; omega)), w2.2.1, w2.2.2.1, fun h => by cases h⟩
  refine lv_aload_n hx hb dL_law_1275 rfl (lv_at hl 2 rfl) ?_
  refine lw_arg (pc := 1276) (t := 1) C0 (by decide) dL_law_1276 dL_law_1277 dL_law_1278 dL_law_1279 dL_law_1280 hl (by omega) hL S ?_
  refine lw_call (B := lB2 l D cy s.heap.size aK aV false) (pc := 1281) (As := [.int (xs (i + 1))]) (rest := [.int v]) (ci := 7) C0 K2 (Nat.le_add_right _ _) dL_law_1281 lk_RL_157 rfl (by decide) (ctX7_tell o2 g2) rfl (by decide) rfl (by decide) (Nat.le_of_ble_eq_true rfl) (Nat.le_refl _) (Nat.le_refl _) hl.1 w2 S rfl (fun H2 locs2 w2 hz2 hk2 S => ?_)
  have w1 : ctH (lB1 l D cy s.heap.size aK aV false) 149 Mc2 H2 := ⟨w1.1.kept (fun k x hx => by
      have hlt := (w1.1 k x hx).lt
      have hl2 : k < 149 := by
        have := (List.getElem?_eq_some_iff.mp hx).1
        simpa [ctW] using this
      rw [ctW_at hl2] at hx
      cases hx
      exact hk2 _ hlt (fun z => by have := z.1; simp only [bHi, bLo] at this; omega)), w1.2.1, w1.2.2.1, fun h => by cases h⟩
  refine lv_icmp_eq (tgt := 1361) hx hb dL_law_1284 (by decide) (fun _ => next Mc2 Mm2 H2 locs2 g3 w1 w2 S) (fun z => absurd rfl z)
set_option maxHeartbeats 4000000 in
set_option maxRecDepth 20000 in
theorem law_case_35 {Sim : ctM → ctM → Prop} {p : Program} {l : Launch} {e : Env} {s : State} {m : MethodId} {below : List Frame} {meth : Method} {c : Code} {b L : Nat} {xs : Nat → Int32} {H : Heap} {locs : List Loc} {ls : Array Slot} {D : va_G} {cy : Nat → ClassId} {aK aV : Nat → Nat} (hL : L ≤ 384) (C0 : lw_At p s m meth c b L xs) (K1 : ctK (lB1 l D cy s.heap.size aK aV false) s) (K2 : ctK (lB2 l D cy s.heap.size aK aV false) s) (hop : opS1 Sim fX6_check fX7_check) {Mc Mm : ctM} (hs : Sim Mc Mm) {i : Nat} (hi : i + 6 ≤ L) (hl : lv_has ls 4 [(0, .ref b), (1, .ref s.heap.size), (2, .ref (s.heap.size + 149)), (3, .int (nI i))]) (w1 : ctH (lB1 l D cy s.heap.size aK aV false) 149 Mc H) (w2 : ctH (lB2 l D cy s.heap.size aK aV false) 21 Mm H) (S : va_S (fun q : Nat => s.heap.size ≤ q) s.heap H locs)
    (next : ∀ (Mc2 Mm2 : ctM) (H1 : Heap) (locs1 : List Loc), Sim Mc2 Mm2 → ctH (lB1 l D cy s.heap.size aK aV false) 149 Mc2 H1 → ctH (lB2 l D cy s.heap.size aK aV false) 21 Mm2 H1 → va_S (fun q : Nat => s.heap.size ≤ q) s.heap H1 locs1 → W p l e room_1 s m #[Value.ref b] below meth c H1 locs1 600000 7302250 (lw_Z below #[Value.ref b] s) (F0 m 1361 ls [])) : W p l e room_1 s m #[Value.ref b] below meth c H locs 600000 7302250 (lw_Z below #[Value.ref b] s) (F0 m 1289 ls []) := by
  obtain ⟨v, Mc2, Mm2, g1, g2, g3⟩ := hop Mc Mm hs (xs (i + 1))
  obtain ⟨hx, hb, hr, hml, hown, hts, hX, hbl, hlocks, hgv⟩ := id C0
  have o1 : ctOk (lB1 l D cy s.heap.size aK aV false) kdC lnC 149 := fun a ha => ⟨rfl, rfl, kdC_lt a ha⟩
  have o2 : ctOk (lB2 l D cy s.heap.size aK aV false) kdM lnM 21 := fun a ha => ⟨rfl, rfl, kdM_lt a ha⟩
  refine lv_aload_n hx hb dL_law_1289 rfl (lv_at hl 1 rfl) ?_
  refine lw_arg (pc := 1290) (t := 1) C0 (by decide) dL_law_1290 dL_law_1291 dL_law_1292 dL_law_1293 dL_law_1294 hl (by omega) hL S ?_
  refine lw_call (B := lB1 l D cy s.heap.size aK aV false) (pc := 1295) (As := [.int (xs (i + 1))]) (rest := []) (ci := 6) C0 K1 (Nat.le_refl _) dL_law_1295 lk_RL_158 rfl (by decide) (ctX6_check o1 g1) rfl (by decide) rfl (by decide) (Nat.le_of_ble_eq_true rfl) (Nat.le_refl _) (Nat.le_refl _) hl.1 w1 S rfl (fun H1 locs1 w1 hz hk S => ?_)
  have w2 : ctH (lB2 l D cy s.heap.size aK aV false) 21 Mm H1 := ⟨w2.1.kept (fun k x hx => by
      have hlt := (w2.1 k x hx).lt
      have hl2 : k < 21 := by
        have := (List.getElem?_eq_some_iff.mp hx).1
        simpa [ctW] using this
      rw [ctW_at hl2] at hx
      cases hx
      exact hk _ hlt (fun z => by have := z.2; simp only [bHi, bLo] at this; omega)), w2.2.1, w2.2.2.1, fun h => by cases h⟩
  refine lv_aload_n hx hb dL_law_1298 rfl (lv_at hl 2 rfl) ?_
  refine lw_arg (pc := 1299) (t := 1) C0 (by decide) dL_law_1299 dL_law_1300 dL_law_1301 dL_law_1302 dL_law_1303 hl (by omega) hL S ?_
  refine lw_call (B := lB2 l D cy s.heap.size aK aV false) (pc := 1304) (As := [.int (xs (i + 1))]) (rest := [.int v]) (ci := 7) C0 K2 (Nat.le_add_right _ _) dL_law_1304 lk_RL_161 rfl (by decide) (ctX7_check o2 g2) rfl (by decide) rfl (by decide) (Nat.le_of_ble_eq_true rfl) (Nat.le_refl _) (Nat.le_refl _) hl.1 w2 S rfl (fun H2 locs2 w2 hz2 hk2 S => ?_)
  have w1 : ctH (lB1 l D cy s.heap.size aK aV false) 149 Mc2 H2 := ⟨w1.1.kept (fun k x hx => by
      have hlt := (w1.1 k x hx).lt
      have hl2 : k < 149 := by
        have := (List.getElem?_eq_some_iff.mp hx).1
        simpa [ctW] using this
      rw [ctW_at hl2] at hx
      cases hx
      exact hk2 _ hlt (fun z => by have := z.1; simp only [bHi, bLo] at this; omega)), w1.2.1, w1.2.2.1, fun h => by cases h⟩
  refine lv_icmp_eq (tgt := 1361) hx hb dL_law_1307 (by decide) (fun _ => next Mc2 Mm2 H2 locs2 g3 w1 w2 S) (fun z => absurd rfl z)
set_option maxHeartbeats 4000000 in
set_option maxRecDepth 20000 in
theorem law_case_36 {Sim : ctM → ctM → Prop} {p : Program} {l : Launch} {e : Env} {s : State} {m : MethodId} {below : List Frame} {meth : Method} {c : Code} {b L : Nat} {xs : Nat → Int32} {H : Heap} {locs : List Loc} {ls : Array Slot} {D : va_G} {cy : Nat → ClassId} {aK aV : Nat → Nat} (hL : L ≤ 384) (C0 : lw_At p s m meth c b L xs) (K1 : ctK (lB1 l D cy s.heap.size aK aV false) s) (K2 : ctK (lB2 l D cy s.heap.size aK aV false) s) (hop : opS0 Sim fX6_keep fX7_keep) {Mc Mm : ctM} (hs : Sim Mc Mm) {i : Nat} (hi : i + 6 ≤ L) (hl : lv_has ls 4 [(0, .ref b), (1, .ref s.heap.size), (2, .ref (s.heap.size + 149)), (3, .int (nI i))]) (w1 : ctH (lB1 l D cy s.heap.size aK aV false) 149 Mc H) (w2 : ctH (lB2 l D cy s.heap.size aK aV false) 21 Mm H) (S : va_S (fun q : Nat => s.heap.size ≤ q) s.heap H locs)
    (next : ∀ (Mc2 Mm2 : ctM) (H1 : Heap) (locs1 : List Loc), Sim Mc2 Mm2 → ctH (lB1 l D cy s.heap.size aK aV false) 149 Mc2 H1 → ctH (lB2 l D cy s.heap.size aK aV false) 21 Mm2 H1 → va_S (fun q : Nat => s.heap.size ≤ q) s.heap H1 locs1 → W p l e room_1 s m #[Value.ref b] below meth c H1 locs1 600000 7302250 (lw_Z below #[Value.ref b] s) (F0 m 1361 ls [])) : W p l e room_1 s m #[Value.ref b] below meth c H locs 600000 7302250 (lw_Z below #[Value.ref b] s) (F0 m 1312 ls []) := by
  obtain ⟨v, Mc2, Mm2, g1, g2, g3⟩ := hop Mc Mm hs 
  obtain ⟨hx, hb, hr, hml, hown, hts, hX, hbl, hlocks, hgv⟩ := id C0
  have o1 : ctOk (lB1 l D cy s.heap.size aK aV false) kdC lnC 149 := fun a ha => ⟨rfl, rfl, kdC_lt a ha⟩
  have o2 : ctOk (lB2 l D cy s.heap.size aK aV false) kdM lnM 21 := fun a ha => ⟨rfl, rfl, kdM_lt a ha⟩
  refine lv_aload_n hx hb dL_law_1312 rfl (lv_at hl 1 rfl) ?_
  refine lw_call (B := lB1 l D cy s.heap.size aK aV false) (pc := 1313) (As := []) (rest := []) (ci := 6) C0 K1 (Nat.le_refl _) dL_law_1313 lk_RL_162 rfl (by decide) (ctX6_keep o1 g1) rfl (by decide) rfl (by decide) (Nat.le_of_ble_eq_true rfl) (Nat.le_refl _) (Nat.le_refl _) hl.1 w1 S rfl (fun H1 locs1 w1 hz hk S => ?_)
  have w2 : ctH (lB2 l D cy s.heap.size aK aV false) 21 Mm H1 := ⟨w2.1.kept (fun k x hx => by
      have hlt := (w2.1 k x hx).lt
      have hl2 : k < 21 := by
        have := (List.getElem?_eq_some_iff.mp hx).1
        simpa [ctW] using this
      rw [ctW_at hl2] at hx
      cases hx
      exact hk _ hlt (fun z => by have := z.2; simp only [bHi, bLo] at this; omega)), w2.2.1, w2.2.2.1, fun h => by cases h⟩
  refine lv_aload_n hx hb dL_law_1316 rfl (lv_at hl 2 rfl) ?_
  refine lw_call (B := lB2 l D cy s.heap.size aK aV false) (pc := 1317) (As := []) (rest := [.int v]) (ci := 7) C0 K2 (Nat.le_add_right _ _) dL_law_1317 lk_RL_165 rfl (by decide) (ctX7_keep o2 g2) rfl (by decide) rfl (by decide) (Nat.le_of_ble_eq_true rfl) (Nat.le_refl _) (Nat.le_refl _) hl.1 w2 S rfl (fun H2 locs2 w2 hz2 hk2 S => ?_)
  have w1 : ctH (lB1 l D cy s.heap.size aK aV false) 149 Mc2 H2 := ⟨w1.1.kept (fun k x hx => by
      have hlt := (w1.1 k x hx).lt
      have hl2 : k < 149 := by
        have := (List.getElem?_eq_some_iff.mp hx).1
        simpa [ctW] using this
      rw [ctW_at hl2] at hx
      cases hx
      exact hk2 _ hlt (fun z => by have := z.1; simp only [bHi, bLo] at this; omega)), w1.2.1, w1.2.2.1, fun h => by cases h⟩
  refine lv_icmp_eq (tgt := 1361) hx hb dL_law_1320 (by decide) (fun _ => next Mc2 Mm2 H2 locs2 g3 w1 w2 S) (fun z => absurd rfl z)
set_option maxHeartbeats 4000000 in
set_option maxRecDepth 20000 in
theorem law_case_37 {Sim : ctM → ctM → Prop} {p : Program} {l : Launch} {e : Env} {s : State} {m : MethodId} {below : List Frame} {meth : Method} {c : Code} {b L : Nat} {xs : Nat → Int32} {H : Heap} {locs : List Loc} {ls : Array Slot} {D : va_G} {cy : Nat → ClassId} {aK aV : Nat → Nat} (hL : L ≤ 384) (C0 : lw_At p s m meth c b L xs) (K1 : ctK (lB1 l D cy s.heap.size aK aV false) s) (K2 : ctK (lB2 l D cy s.heap.size aK aV false) s) (hop : opS0 Sim fX6_back fX7_back) {Mc Mm : ctM} (hs : Sim Mc Mm) {i : Nat} (hi : i + 6 ≤ L) (hl : lv_has ls 4 [(0, .ref b), (1, .ref s.heap.size), (2, .ref (s.heap.size + 149)), (3, .int (nI i))]) (w1 : ctH (lB1 l D cy s.heap.size aK aV false) 149 Mc H) (w2 : ctH (lB2 l D cy s.heap.size aK aV false) 21 Mm H) (S : va_S (fun q : Nat => s.heap.size ≤ q) s.heap H locs)
    (next : ∀ (Mc2 Mm2 : ctM) (H1 : Heap) (locs1 : List Loc), Sim Mc2 Mm2 → ctH (lB1 l D cy s.heap.size aK aV false) 149 Mc2 H1 → ctH (lB2 l D cy s.heap.size aK aV false) 21 Mm2 H1 → va_S (fun q : Nat => s.heap.size ≤ q) s.heap H1 locs1 → W p l e room_1 s m #[Value.ref b] below meth c H1 locs1 600000 7302250 (lw_Z below #[Value.ref b] s) (F0 m 1361 ls [])) : W p l e room_1 s m #[Value.ref b] below meth c H locs 600000 7302250 (lw_Z below #[Value.ref b] s) (F0 m 1325 ls []) := by
  obtain ⟨v, Mc2, Mm2, g1, g2, g3⟩ := hop Mc Mm hs 
  obtain ⟨hx, hb, hr, hml, hown, hts, hX, hbl, hlocks, hgv⟩ := id C0
  have o1 : ctOk (lB1 l D cy s.heap.size aK aV false) kdC lnC 149 := fun a ha => ⟨rfl, rfl, kdC_lt a ha⟩
  have o2 : ctOk (lB2 l D cy s.heap.size aK aV false) kdM lnM 21 := fun a ha => ⟨rfl, rfl, kdM_lt a ha⟩
  refine lv_aload_n hx hb dL_law_1325 rfl (lv_at hl 1 rfl) ?_
  refine lw_call (B := lB1 l D cy s.heap.size aK aV false) (pc := 1326) (As := []) (rest := []) (ci := 6) C0 K1 (Nat.le_refl _) dL_law_1326 lk_RL_166 rfl (by decide) (ctX6_back o1 g1) rfl (by decide) rfl (by decide) (Nat.le_of_ble_eq_true rfl) (Nat.le_refl _) (Nat.le_refl _) hl.1 w1 S rfl (fun H1 locs1 w1 hz hk S => ?_)
  have w2 : ctH (lB2 l D cy s.heap.size aK aV false) 21 Mm H1 := ⟨w2.1.kept (fun k x hx => by
      have hlt := (w2.1 k x hx).lt
      have hl2 : k < 21 := by
        have := (List.getElem?_eq_some_iff.mp hx).1
        simpa [ctW] using this
      rw [ctW_at hl2] at hx
      cases hx
      exact hk _ hlt (fun z => by have := z.2; simp only [bHi, bLo] at this; omega)), w2.2.1, w2.2.2.1, fun h => by cases h⟩
  refine lv_aload_n hx hb dL_law_1329 rfl (lv_at hl 2 rfl) ?_
  refine lw_call (B := lB2 l D cy s.heap.size aK aV false) (pc := 1330) (As := []) (rest := [.int v]) (ci := 7) C0 K2 (Nat.le_add_right _ _) dL_law_1330 lk_RL_169 rfl (by decide) (ctX7_back o2 g2) rfl (by decide) rfl (by decide) (Nat.le_of_ble_eq_true rfl) (Nat.le_refl _) (Nat.le_refl _) hl.1 w2 S rfl (fun H2 locs2 w2 hz2 hk2 S => ?_)
  have w1 : ctH (lB1 l D cy s.heap.size aK aV false) 149 Mc2 H2 := ⟨w1.1.kept (fun k x hx => by
      have hlt := (w1.1 k x hx).lt
      have hl2 : k < 149 := by
        have := (List.getElem?_eq_some_iff.mp hx).1
        simpa [ctW] using this
      rw [ctW_at hl2] at hx
      cases hx
      exact hk2 _ hlt (fun z => by have := z.1; simp only [bHi, bLo] at this; omega)), w1.2.1, w1.2.2.1, fun h => by cases h⟩
  refine lv_icmp_eq (tgt := 1361) hx hb dL_law_1333 (by decide) (fun _ => next Mc2 Mm2 H2 locs2 g3 w1 w2 S) (fun z => absurd rfl z)
set_option maxHeartbeats 4000000 in
set_option maxRecDepth 20000 in
theorem law_case_38 {Sim : ctM → ctM → Prop} {p : Program} {l : Launch} {e : Env} {s : State} {m : MethodId} {below : List Frame} {meth : Method} {c : Code} {b L : Nat} {xs : Nat → Int32} {H : Heap} {locs : List Loc} {ls : Array Slot} {D : va_G} {cy : Nat → ClassId} {aK aV : Nat → Nat} (hL : L ≤ 384) (C0 : lw_At p s m meth c b L xs) (K1 : ctK (lB1 l D cy s.heap.size aK aV false) s) (K2 : ctK (lB2 l D cy s.heap.size aK aV false) s) (hop : opS1 Sim fX6_count fX7_count) {Mc Mm : ctM} (hs : Sim Mc Mm) {i : Nat} (hi : i + 6 ≤ L) (hl : lv_has ls 4 [(0, .ref b), (1, .ref s.heap.size), (2, .ref (s.heap.size + 149)), (3, .int (nI i))]) (w1 : ctH (lB1 l D cy s.heap.size aK aV false) 149 Mc H) (w2 : ctH (lB2 l D cy s.heap.size aK aV false) 21 Mm H) (S : va_S (fun q : Nat => s.heap.size ≤ q) s.heap H locs)
    (next : ∀ (Mc2 Mm2 : ctM) (H1 : Heap) (locs1 : List Loc), Sim Mc2 Mm2 → ctH (lB1 l D cy s.heap.size aK aV false) 149 Mc2 H1 → ctH (lB2 l D cy s.heap.size aK aV false) 21 Mm2 H1 → va_S (fun q : Nat => s.heap.size ≤ q) s.heap H1 locs1 → W p l e room_1 s m #[Value.ref b] below meth c H1 locs1 600000 7302250 (lw_Z below #[Value.ref b] s) (F0 m 1361 ls [])) : W p l e room_1 s m #[Value.ref b] below meth c H locs 600000 7302250 (lw_Z below #[Value.ref b] s) (F0 m 1338 ls []) := by
  obtain ⟨v, Mc2, Mm2, g1, g2, g3⟩ := hop Mc Mm hs (xs (i + 1))
  obtain ⟨hx, hb, hr, hml, hown, hts, hX, hbl, hlocks, hgv⟩ := id C0
  have o1 : ctOk (lB1 l D cy s.heap.size aK aV false) kdC lnC 149 := fun a ha => ⟨rfl, rfl, kdC_lt a ha⟩
  have o2 : ctOk (lB2 l D cy s.heap.size aK aV false) kdM lnM 21 := fun a ha => ⟨rfl, rfl, kdM_lt a ha⟩
  refine lv_aload_n hx hb dL_law_1338 rfl (lv_at hl 1 rfl) ?_
  refine lw_arg (pc := 1339) (t := 1) C0 (by decide) dL_law_1339 dL_law_1340 dL_law_1341 dL_law_1342 dL_law_1343 hl (by omega) hL S ?_
  refine lw_call (B := lB1 l D cy s.heap.size aK aV false) (pc := 1344) (As := [.int (xs (i + 1))]) (rest := []) (ci := 6) C0 K1 (Nat.le_refl _) dL_law_1344 lk_RL_170 rfl (by decide) (ctX6_count o1 g1) rfl (by decide) rfl (by decide) (Nat.le_of_ble_eq_true rfl) (Nat.le_refl _) (Nat.le_refl _) hl.1 w1 S rfl (fun H1 locs1 w1 hz hk S => ?_)
  have w2 : ctH (lB2 l D cy s.heap.size aK aV false) 21 Mm H1 := ⟨w2.1.kept (fun k x hx => by
      have hlt := (w2.1 k x hx).lt
      have hl2 : k < 21 := by
        have := (List.getElem?_eq_some_iff.mp hx).1
        simpa [ctW] using this
      rw [ctW_at hl2] at hx
      cases hx
      exact hk _ hlt (fun z => by have := z.2; simp only [bHi, bLo] at this; omega)), w2.2.1, w2.2.2.1, fun h => by cases h⟩
  refine lv_aload_n hx hb dL_law_1347 rfl (lv_at hl 2 rfl) ?_
  refine lw_arg (pc := 1348) (t := 1) C0 (by decide) dL_law_1348 dL_law_1349 dL_law_1350 dL_law_1351 dL_law_1352 hl (by omega) hL S ?_
  refine lw_call (B := lB2 l D cy s.heap.size aK aV false) (pc := 1353) (As := [.int (xs (i + 1))]) (rest := [.int v]) (ci := 7) C0 K2 (Nat.le_add_right _ _) dL_law_1353 lk_RL_173 rfl (by decide) (ctX7_count o2 g2) rfl (by decide) rfl (by decide) (Nat.le_of_ble_eq_true rfl) (Nat.le_refl _) (Nat.le_refl _) hl.1 w2 S rfl (fun H2 locs2 w2 hz2 hk2 S => ?_)
  have w1 : ctH (lB1 l D cy s.heap.size aK aV false) 149 Mc2 H2 := ⟨w1.1.kept (fun k x hx => by
      have hlt := (w1.1 k x hx).lt
      have hl2 : k < 149 := by
        have := (List.getElem?_eq_some_iff.mp hx).1
        simpa [ctW] using this
      rw [ctW_at hl2] at hx
      cases hx
      exact hk2 _ hlt (fun z => by have := z.1; simp only [bHi, bLo] at this; omega)), w1.2.1, w1.2.2.1, fun h => by cases h⟩
  refine lv_icmp_eq (tgt := 1361) hx hb dL_law_1356 (by decide) (fun _ => next Mc2 Mm2 H2 locs2 g3 w1 w2 S) (fun z => absurd rfl z)
