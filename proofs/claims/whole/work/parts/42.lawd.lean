/-! THE CLAIM OUT OF ONE WALK OF THE LAW'S BODY. Your part is whole_start (and what it stands on); all else here is the same for every law, but numbers. -/
def R_law : String := "RankStairsLaw"
def lw_P (b : Addr) (xs : List Int32) (args : Array Value) (s : State) : Prop := args = #[.ref b] ∧ s.IntsAt b xs ∧ xs.length ≤ 2560 ∧ (Jvm.Cond.and given_1 narrow_1).before args s = true
def lw_Q (_ : Array Value) (s : State) (o : Outcome) (t : State) : Prop := o = .returned (some (.int 1)) ∧ Framed s o t [] 600000 7302250
def lw_Z (below : List Frame) (a : Array Value) (s : State) : State → Prop := fun t => ∃ o, t.status = .running ∧ Ended t below o ∧ lw_Q a s o t
/-- the law's own end, with 1 on the stack, nothing written that was there before, its room as the claim has it -/
theorem lw_ret {p : Program} {l : Launch} {e : Env} {s : State} {m : MethodId} {below : List Frame} {meth : Method} {c : Code} {b : Nat} (hx : p.tables.exec = Jvm.exec) (hb : c.code = code) (hr : meth.sig.returnType = ret) (hlocks : meth.locks = false) {pc : Nat} {H : Heap} {ls : Array Slot} (hdg : decode code pc = .ok (.ireturn, 1)) : W p l e room_1 s m #[Value.ref b] below meth c H [] 600000 7302250 (lw_Z below #[Value.ref b] s) (F0 m pc ls [.int 1]) := by
  intro T hT X
  obtain ⟨fs, hret, hrun, hended, hW, hframe⟩ := X.leave (v := some (.int 1)) (hlocks := hlocks) (fun h => by rw [hr] at h; cases h)
  have hmeth' : T.vm.method? m = some meth := X.method'
  refine ⟨T.setFrames fs, ?_, .returned (some (.int 1)), hrun, hended, rfl, ⟨_, rfl⟩, hW, hframe⟩
  jvm_step X.here [X.here.top, hx, hb, hdg, hmeth', hr, ret, narrow_b1]
  (try refine ⟨rfl, ?_⟩); (try refine ⟨rfl, ?_⟩)
  first | (intro acts; rw [hret _ acts rfl rfl rfl]) | rw [hret _ _ rfl rfl rfl]
  exact Steps.refl _
/-- what holds at the law's entry: the machine, the code, the tables' words (any of lw_tbl by 'hts w (by decide +kernel)'), the script of L ints xs at the cell b, what the Statement gives of the start (any of its parts by flat_of_before) -/
def lw_At (p : Program) (s : State) (m : MethodId) (meth : Method) (c : Code) (b L : Nat) (xs : Nat → Int32) : Prop :=
  p.tables.exec = Jvm.exec ∧ c.code = code ∧ meth.sig.returnType = ret ∧ c.maxLocals = 4 ∧ s.vm.findClass R_law = some m.cls ∧ (∀ w ∈ lw_tbl, w.before #[Value.ref b] s = true) ∧ va_X b L xs s s.heap ∧ b < s.heap.size ∧ meth.locks = false ∧ (Jvm.Cond.and given_1 narrow_1).before #[Value.ref b] s = true

theorem dL_law_0 : decode code 0 = .ok (.new 7, 3) := by decide +kernel
theorem dL_law_3 : decode code 3 = .ok (.dup, 1) := by decide +kernel
theorem dL_law_4 : decode code 4 = .ok (.invokespecial 9, 3) := by decide +kernel
theorem dL_law_7 : decode code 7 = .ok (.astore_n 1, 1) := by decide +kernel
theorem dL_law_8 : decode code 8 = .ok (.new 10, 3) := by decide +kernel
theorem dL_law_11 : decode code 11 = .ok (.dup, 1) := by decide +kernel
theorem dL_law_12 : decode code 12 = .ok (.invokespecial 12, 3) := by decide +kernel
theorem dL_law_15 : decode code 15 = .ok (.astore_n 2, 1) := by decide +kernel
theorem dL_law_16 : decode code 16 = .ok (.iconst 0, 1) := by decide +kernel
theorem dL_law_17 : decode code 17 = .ok (.istore_n 3, 1) := by decide +kernel
theorem dL_law_18 : decode code 18 = .ok (.iload_n 3, 1) := by decide +kernel
theorem dL_law_19 : decode code 19 = .ok (.aload_n 0, 1) := by decide +kernel
theorem dL_law_20 : decode code 20 = .ok (.arraylength, 1) := by decide +kernel
theorem dL_law_21 : decode code 21 = .ok (.iconst 5, 1) := by decide +kernel
theorem dL_law_22 : decode code 22 = .ok (.isub, 1) := by decide +kernel
theorem dL_law_23 : decode code 23 = .ok (.if_icmp .gt 1374, 3) := by decide +kernel
theorem dL_law_26 : decode code 26 = .ok (.aload_n 0, 1) := by decide +kernel
theorem dL_law_27 : decode code 27 = .ok (.iload_n 3, 1) := by decide +kernel
theorem dL_law_28 : decode code 28 = .ok (.iaload, 1) := by decide +kernel
theorem dL_law_29 : decode code 29 = .ok (.bipush 63, 2) := by decide +kernel
theorem dL_law_31 : decode code 31 = .ok (.iand, 1) := by decide +kernel
theorem dL_law_32 : decode code 32 = .ok (.tableswitch 1359 0 42 #[188, 211, 234, 247, 260, 283, 316, 349, 382, 415, 438, 471, 504, 537, 570, 583, 616, 639, 672, 685, 708, 731, 764, 787, 810, 833, 856, 879, 902, 925, 969, 1003, 1036, 1059, 1072, 1095, 1138, 1161, 1184, 1227, 1270, 1323, 1336], 188) := by decide +kernel
theorem dL_law_220 : decode code 220 = .ok (.aload_n 1, 1) := by decide +kernel
theorem dL_law_221 : decode code 221 = .ok (.aload_n 0, 1) := by decide +kernel
theorem dL_law_222 : decode code 222 = .ok (.iload_n 3, 1) := by decide +kernel
theorem dL_law_223 : decode code 223 = .ok (.iconst 1, 1) := by decide +kernel
theorem dL_law_224 : decode code 224 = .ok (.iadd, 1) := by decide +kernel
theorem dL_law_225 : decode code 225 = .ok (.iaload, 1) := by decide +kernel
theorem dL_law_226 : decode code 226 = .ok (.invokevirtual 13, 3) := by decide +kernel
theorem dL_law_229 : decode code 229 = .ok (.aload_n 2, 1) := by decide +kernel
theorem dL_law_230 : decode code 230 = .ok (.aload_n 0, 1) := by decide +kernel
theorem dL_law_231 : decode code 231 = .ok (.iload_n 3, 1) := by decide +kernel
theorem dL_law_232 : decode code 232 = .ok (.iconst 1, 1) := by decide +kernel
theorem dL_law_233 : decode code 233 = .ok (.iadd, 1) := by decide +kernel
theorem dL_law_234 : decode code 234 = .ok (.iaload, 1) := by decide +kernel
theorem dL_law_235 : decode code 235 = .ok (.invokevirtual 17, 3) := by decide +kernel
theorem dL_law_238 : decode code 238 = .ok (.if_icmp .eq 1153, 3) := by decide +kernel
theorem dL_law_241 : decode code 241 = .ok (.iconst 0, 1) := by decide +kernel
theorem dL_law_242 : decode code 242 = .ok (.ireturn, 1) := by decide +kernel
theorem dL_law_243 : decode code 243 = .ok (.aload_n 1, 1) := by decide +kernel
theorem dL_law_244 : decode code 244 = .ok (.aload_n 0, 1) := by decide +kernel
theorem dL_law_245 : decode code 245 = .ok (.iload_n 3, 1) := by decide +kernel
theorem dL_law_246 : decode code 246 = .ok (.iconst 1, 1) := by decide +kernel
theorem dL_law_247 : decode code 247 = .ok (.iadd, 1) := by decide +kernel
theorem dL_law_248 : decode code 248 = .ok (.iaload, 1) := by decide +kernel
theorem dL_law_249 : decode code 249 = .ok (.invokevirtual 18, 3) := by decide +kernel
theorem dL_law_252 : decode code 252 = .ok (.aload_n 2, 1) := by decide +kernel
theorem dL_law_253 : decode code 253 = .ok (.aload_n 0, 1) := by decide +kernel
theorem dL_law_254 : decode code 254 = .ok (.iload_n 3, 1) := by decide +kernel
theorem dL_law_255 : decode code 255 = .ok (.iconst 1, 1) := by decide +kernel
theorem dL_law_256 : decode code 256 = .ok (.iadd, 1) := by decide +kernel
theorem dL_law_257 : decode code 257 = .ok (.iaload, 1) := by decide +kernel
theorem dL_law_258 : decode code 258 = .ok (.invokevirtual 21, 3) := by decide +kernel
theorem dL_law_261 : decode code 261 = .ok (.if_icmp .eq 1130, 3) := by decide +kernel
theorem dL_law_264 : decode code 264 = .ok (.iconst 0, 1) := by decide +kernel
theorem dL_law_265 : decode code 265 = .ok (.ireturn, 1) := by decide +kernel
theorem dL_law_266 : decode code 266 = .ok (.aload_n 1, 1) := by decide +kernel
theorem dL_law_267 : decode code 267 = .ok (.invokevirtual 22, 3) := by decide +kernel
theorem dL_law_270 : decode code 270 = .ok (.aload_n 2, 1) := by decide +kernel
theorem dL_law_271 : decode code 271 = .ok (.invokevirtual 26, 3) := by decide +kernel
theorem dL_law_274 : decode code 274 = .ok (.if_icmp .eq 1117, 3) := by decide +kernel
theorem dL_law_277 : decode code 277 = .ok (.iconst 0, 1) := by decide +kernel
theorem dL_law_278 : decode code 278 = .ok (.ireturn, 1) := by decide +kernel
theorem dL_law_279 : decode code 279 = .ok (.aload_n 1, 1) := by decide +kernel
theorem dL_law_280 : decode code 280 = .ok (.invokevirtual 27, 3) := by decide +kernel
theorem dL_law_283 : decode code 283 = .ok (.aload_n 2, 1) := by decide +kernel
theorem dL_law_284 : decode code 284 = .ok (.invokevirtual 30, 3) := by decide +kernel
theorem dL_law_287 : decode code 287 = .ok (.if_icmp .eq 1104, 3) := by decide +kernel
theorem dL_law_290 : decode code 290 = .ok (.iconst 0, 1) := by decide +kernel
theorem dL_law_291 : decode code 291 = .ok (.ireturn, 1) := by decide +kernel
theorem dL_law_292 : decode code 292 = .ok (.aload_n 1, 1) := by decide +kernel
theorem dL_law_293 : decode code 293 = .ok (.aload_n 0, 1) := by decide +kernel
theorem dL_law_294 : decode code 294 = .ok (.iload_n 3, 1) := by decide +kernel
theorem dL_law_295 : decode code 295 = .ok (.iconst 1, 1) := by decide +kernel
theorem dL_law_296 : decode code 296 = .ok (.iadd, 1) := by decide +kernel
theorem dL_law_297 : decode code 297 = .ok (.iaload, 1) := by decide +kernel
theorem dL_law_298 : decode code 298 = .ok (.invokevirtual 31, 3) := by decide +kernel
theorem dL_law_301 : decode code 301 = .ok (.aload_n 2, 1) := by decide +kernel
theorem dL_law_302 : decode code 302 = .ok (.aload_n 0, 1) := by decide +kernel
theorem dL_law_303 : decode code 303 = .ok (.iload_n 3, 1) := by decide +kernel
theorem dL_law_304 : decode code 304 = .ok (.iconst 1, 1) := by decide +kernel
theorem dL_law_305 : decode code 305 = .ok (.iadd, 1) := by decide +kernel
theorem dL_law_306 : decode code 306 = .ok (.iaload, 1) := by decide +kernel
theorem dL_law_307 : decode code 307 = .ok (.invokevirtual 34, 3) := by decide +kernel
theorem dL_law_310 : decode code 310 = .ok (.if_icmp .eq 1081, 3) := by decide +kernel
theorem dL_law_313 : decode code 313 = .ok (.iconst 0, 1) := by decide +kernel
theorem dL_law_314 : decode code 314 = .ok (.ireturn, 1) := by decide +kernel
theorem dL_law_315 : decode code 315 = .ok (.aload_n 1, 1) := by decide +kernel
theorem dL_law_316 : decode code 316 = .ok (.aload_n 0, 1) := by decide +kernel
theorem dL_law_317 : decode code 317 = .ok (.iload_n 3, 1) := by decide +kernel
theorem dL_law_318 : decode code 318 = .ok (.iconst 1, 1) := by decide +kernel
theorem dL_law_319 : decode code 319 = .ok (.iadd, 1) := by decide +kernel
theorem dL_law_320 : decode code 320 = .ok (.iaload, 1) := by decide +kernel
theorem dL_law_321 : decode code 321 = .ok (.aload_n 0, 1) := by decide +kernel
theorem dL_law_322 : decode code 322 = .ok (.iload_n 3, 1) := by decide +kernel
theorem dL_law_323 : decode code 323 = .ok (.iconst 2, 1) := by decide +kernel
theorem dL_law_324 : decode code 324 = .ok (.iadd, 1) := by decide +kernel
theorem dL_law_325 : decode code 325 = .ok (.iaload, 1) := by decide +kernel
theorem dL_law_326 : decode code 326 = .ok (.invokevirtual 35, 3) := by decide +kernel
theorem dL_law_329 : decode code 329 = .ok (.aload_n 2, 1) := by decide +kernel
theorem dL_law_330 : decode code 330 = .ok (.aload_n 0, 1) := by decide +kernel
theorem dL_law_331 : decode code 331 = .ok (.iload_n 3, 1) := by decide +kernel
theorem dL_law_332 : decode code 332 = .ok (.iconst 1, 1) := by decide +kernel
theorem dL_law_333 : decode code 333 = .ok (.iadd, 1) := by decide +kernel
theorem dL_law_334 : decode code 334 = .ok (.iaload, 1) := by decide +kernel
theorem dL_law_335 : decode code 335 = .ok (.aload_n 0, 1) := by decide +kernel
theorem dL_law_336 : decode code 336 = .ok (.iload_n 3, 1) := by decide +kernel
theorem dL_law_337 : decode code 337 = .ok (.iconst 2, 1) := by decide +kernel
theorem dL_law_338 : decode code 338 = .ok (.iadd, 1) := by decide +kernel
theorem dL_law_339 : decode code 339 = .ok (.iaload, 1) := by decide +kernel
theorem dL_law_340 : decode code 340 = .ok (.invokevirtual 39, 3) := by decide +kernel
theorem dL_law_343 : decode code 343 = .ok (.if_icmp .eq 1048, 3) := by decide +kernel
theorem dL_law_346 : decode code 346 = .ok (.iconst 0, 1) := by decide +kernel
theorem dL_law_347 : decode code 347 = .ok (.ireturn, 1) := by decide +kernel
theorem dL_law_348 : decode code 348 = .ok (.aload_n 1, 1) := by decide +kernel
theorem dL_law_349 : decode code 349 = .ok (.aload_n 0, 1) := by decide +kernel
theorem dL_law_350 : decode code 350 = .ok (.iload_n 3, 1) := by decide +kernel
theorem dL_law_351 : decode code 351 = .ok (.iconst 1, 1) := by decide +kernel
theorem dL_law_352 : decode code 352 = .ok (.iadd, 1) := by decide +kernel
theorem dL_law_353 : decode code 353 = .ok (.iaload, 1) := by decide +kernel
theorem dL_law_354 : decode code 354 = .ok (.aload_n 0, 1) := by decide +kernel
theorem dL_law_355 : decode code 355 = .ok (.iload_n 3, 1) := by decide +kernel
theorem dL_law_356 : decode code 356 = .ok (.iconst 2, 1) := by decide +kernel
theorem dL_law_357 : decode code 357 = .ok (.iadd, 1) := by decide +kernel
theorem dL_law_358 : decode code 358 = .ok (.iaload, 1) := by decide +kernel
theorem dL_law_359 : decode code 359 = .ok (.invokevirtual 40, 3) := by decide +kernel
theorem dL_law_362 : decode code 362 = .ok (.aload_n 2, 1) := by decide +kernel
theorem dL_law_363 : decode code 363 = .ok (.aload_n 0, 1) := by decide +kernel
theorem dL_law_364 : decode code 364 = .ok (.iload_n 3, 1) := by decide +kernel
theorem dL_law_365 : decode code 365 = .ok (.iconst 1, 1) := by decide +kernel
theorem dL_law_366 : decode code 366 = .ok (.iadd, 1) := by decide +kernel
theorem dL_law_367 : decode code 367 = .ok (.iaload, 1) := by decide +kernel
theorem dL_law_368 : decode code 368 = .ok (.aload_n 0, 1) := by decide +kernel
theorem dL_law_369 : decode code 369 = .ok (.iload_n 3, 1) := by decide +kernel
theorem dL_law_370 : decode code 370 = .ok (.iconst 2, 1) := by decide +kernel
theorem dL_law_371 : decode code 371 = .ok (.iadd, 1) := by decide +kernel
theorem dL_law_372 : decode code 372 = .ok (.iaload, 1) := by decide +kernel
theorem dL_law_373 : decode code 373 = .ok (.invokevirtual 43, 3) := by decide +kernel
theorem dL_law_376 : decode code 376 = .ok (.if_icmp .eq 1015, 3) := by decide +kernel
theorem dL_law_379 : decode code 379 = .ok (.iconst 0, 1) := by decide +kernel
theorem dL_law_380 : decode code 380 = .ok (.ireturn, 1) := by decide +kernel
theorem dL_law_381 : decode code 381 = .ok (.aload_n 1, 1) := by decide +kernel
theorem dL_law_382 : decode code 382 = .ok (.aload_n 0, 1) := by decide +kernel
theorem dL_law_383 : decode code 383 = .ok (.iload_n 3, 1) := by decide +kernel
theorem dL_law_384 : decode code 384 = .ok (.iconst 1, 1) := by decide +kernel
theorem dL_law_385 : decode code 385 = .ok (.iadd, 1) := by decide +kernel
theorem dL_law_386 : decode code 386 = .ok (.iaload, 1) := by decide +kernel
theorem dL_law_387 : decode code 387 = .ok (.aload_n 0, 1) := by decide +kernel
theorem dL_law_388 : decode code 388 = .ok (.iload_n 3, 1) := by decide +kernel
theorem dL_law_389 : decode code 389 = .ok (.iconst 2, 1) := by decide +kernel
theorem dL_law_390 : decode code 390 = .ok (.iadd, 1) := by decide +kernel
theorem dL_law_391 : decode code 391 = .ok (.iaload, 1) := by decide +kernel
theorem dL_law_392 : decode code 392 = .ok (.invokevirtual 44, 3) := by decide +kernel
theorem dL_law_395 : decode code 395 = .ok (.aload_n 2, 1) := by decide +kernel
theorem dL_law_396 : decode code 396 = .ok (.aload_n 0, 1) := by decide +kernel
theorem dL_law_397 : decode code 397 = .ok (.iload_n 3, 1) := by decide +kernel
theorem dL_law_398 : decode code 398 = .ok (.iconst 1, 1) := by decide +kernel
theorem dL_law_399 : decode code 399 = .ok (.iadd, 1) := by decide +kernel
theorem dL_law_400 : decode code 400 = .ok (.iaload, 1) := by decide +kernel
theorem dL_law_401 : decode code 401 = .ok (.aload_n 0, 1) := by decide +kernel
theorem dL_law_402 : decode code 402 = .ok (.iload_n 3, 1) := by decide +kernel
theorem dL_law_403 : decode code 403 = .ok (.iconst 2, 1) := by decide +kernel
theorem dL_law_404 : decode code 404 = .ok (.iadd, 1) := by decide +kernel
theorem dL_law_405 : decode code 405 = .ok (.iaload, 1) := by decide +kernel
theorem dL_law_406 : decode code 406 = .ok (.invokevirtual 47, 3) := by decide +kernel
theorem dL_law_409 : decode code 409 = .ok (.if_icmp .eq 982, 3) := by decide +kernel
theorem dL_law_412 : decode code 412 = .ok (.iconst 0, 1) := by decide +kernel
theorem dL_law_413 : decode code 413 = .ok (.ireturn, 1) := by decide +kernel
theorem dL_law_414 : decode code 414 = .ok (.aload_n 1, 1) := by decide +kernel
theorem dL_law_415 : decode code 415 = .ok (.aload_n 0, 1) := by decide +kernel
theorem dL_law_416 : decode code 416 = .ok (.iload_n 3, 1) := by decide +kernel
theorem dL_law_417 : decode code 417 = .ok (.iconst 1, 1) := by decide +kernel
theorem dL_law_418 : decode code 418 = .ok (.iadd, 1) := by decide +kernel
theorem dL_law_419 : decode code 419 = .ok (.iaload, 1) := by decide +kernel
theorem dL_law_420 : decode code 420 = .ok (.aload_n 0, 1) := by decide +kernel
theorem dL_law_421 : decode code 421 = .ok (.iload_n 3, 1) := by decide +kernel
theorem dL_law_422 : decode code 422 = .ok (.iconst 2, 1) := by decide +kernel
theorem dL_law_423 : decode code 423 = .ok (.iadd, 1) := by decide +kernel
theorem dL_law_424 : decode code 424 = .ok (.iaload, 1) := by decide +kernel
theorem dL_law_425 : decode code 425 = .ok (.invokevirtual 48, 3) := by decide +kernel
theorem dL_law_428 : decode code 428 = .ok (.aload_n 2, 1) := by decide +kernel
theorem dL_law_429 : decode code 429 = .ok (.aload_n 0, 1) := by decide +kernel
theorem dL_law_430 : decode code 430 = .ok (.iload_n 3, 1) := by decide +kernel
theorem dL_law_431 : decode code 431 = .ok (.iconst 1, 1) := by decide +kernel
theorem dL_law_432 : decode code 432 = .ok (.iadd, 1) := by decide +kernel
theorem dL_law_433 : decode code 433 = .ok (.iaload, 1) := by decide +kernel
theorem dL_law_434 : decode code 434 = .ok (.aload_n 0, 1) := by decide +kernel
theorem dL_law_435 : decode code 435 = .ok (.iload_n 3, 1) := by decide +kernel
theorem dL_law_436 : decode code 436 = .ok (.iconst 2, 1) := by decide +kernel
theorem dL_law_437 : decode code 437 = .ok (.iadd, 1) := by decide +kernel
theorem dL_law_438 : decode code 438 = .ok (.iaload, 1) := by decide +kernel
theorem dL_law_439 : decode code 439 = .ok (.invokevirtual 51, 3) := by decide +kernel
theorem dL_law_442 : decode code 442 = .ok (.if_icmp .eq 949, 3) := by decide +kernel
theorem dL_law_445 : decode code 445 = .ok (.iconst 0, 1) := by decide +kernel
theorem dL_law_446 : decode code 446 = .ok (.ireturn, 1) := by decide +kernel
theorem dL_law_447 : decode code 447 = .ok (.aload_n 1, 1) := by decide +kernel
theorem dL_law_448 : decode code 448 = .ok (.aload_n 0, 1) := by decide +kernel
theorem dL_law_449 : decode code 449 = .ok (.iload_n 3, 1) := by decide +kernel
theorem dL_law_450 : decode code 450 = .ok (.iconst 1, 1) := by decide +kernel
theorem dL_law_451 : decode code 451 = .ok (.iadd, 1) := by decide +kernel
theorem dL_law_452 : decode code 452 = .ok (.iaload, 1) := by decide +kernel
theorem dL_law_453 : decode code 453 = .ok (.invokevirtual 52, 3) := by decide +kernel
theorem dL_law_456 : decode code 456 = .ok (.aload_n 2, 1) := by decide +kernel
theorem dL_law_457 : decode code 457 = .ok (.aload_n 0, 1) := by decide +kernel
theorem dL_law_458 : decode code 458 = .ok (.iload_n 3, 1) := by decide +kernel
theorem dL_law_459 : decode code 459 = .ok (.iconst 1, 1) := by decide +kernel
theorem dL_law_460 : decode code 460 = .ok (.iadd, 1) := by decide +kernel
theorem dL_law_461 : decode code 461 = .ok (.iaload, 1) := by decide +kernel
theorem dL_law_462 : decode code 462 = .ok (.invokevirtual 55, 3) := by decide +kernel
theorem dL_law_465 : decode code 465 = .ok (.if_icmp .eq 926, 3) := by decide +kernel
theorem dL_law_468 : decode code 468 = .ok (.iconst 0, 1) := by decide +kernel
theorem dL_law_469 : decode code 469 = .ok (.ireturn, 1) := by decide +kernel
theorem dL_law_470 : decode code 470 = .ok (.aload_n 1, 1) := by decide +kernel
theorem dL_law_471 : decode code 471 = .ok (.aload_n 0, 1) := by decide +kernel
theorem dL_law_472 : decode code 472 = .ok (.iload_n 3, 1) := by decide +kernel
theorem dL_law_473 : decode code 473 = .ok (.iconst 1, 1) := by decide +kernel
theorem dL_law_474 : decode code 474 = .ok (.iadd, 1) := by decide +kernel
theorem dL_law_475 : decode code 475 = .ok (.iaload, 1) := by decide +kernel
theorem dL_law_476 : decode code 476 = .ok (.aload_n 0, 1) := by decide +kernel
theorem dL_law_477 : decode code 477 = .ok (.iload_n 3, 1) := by decide +kernel
theorem dL_law_478 : decode code 478 = .ok (.iconst 2, 1) := by decide +kernel
theorem dL_law_479 : decode code 479 = .ok (.iadd, 1) := by decide +kernel
theorem dL_law_480 : decode code 480 = .ok (.iaload, 1) := by decide +kernel
theorem dL_law_481 : decode code 481 = .ok (.invokevirtual 56, 3) := by decide +kernel
theorem dL_law_484 : decode code 484 = .ok (.aload_n 2, 1) := by decide +kernel
theorem dL_law_485 : decode code 485 = .ok (.aload_n 0, 1) := by decide +kernel
theorem dL_law_486 : decode code 486 = .ok (.iload_n 3, 1) := by decide +kernel
theorem dL_law_487 : decode code 487 = .ok (.iconst 1, 1) := by decide +kernel
theorem dL_law_488 : decode code 488 = .ok (.iadd, 1) := by decide +kernel
theorem dL_law_489 : decode code 489 = .ok (.iaload, 1) := by decide +kernel
theorem dL_law_490 : decode code 490 = .ok (.aload_n 0, 1) := by decide +kernel
theorem dL_law_491 : decode code 491 = .ok (.iload_n 3, 1) := by decide +kernel
theorem dL_law_492 : decode code 492 = .ok (.iconst 2, 1) := by decide +kernel
theorem dL_law_493 : decode code 493 = .ok (.iadd, 1) := by decide +kernel
theorem dL_law_494 : decode code 494 = .ok (.iaload, 1) := by decide +kernel
theorem dL_law_495 : decode code 495 = .ok (.invokevirtual 59, 3) := by decide +kernel
theorem dL_law_498 : decode code 498 = .ok (.if_icmp .eq 893, 3) := by decide +kernel
theorem dL_law_501 : decode code 501 = .ok (.iconst 0, 1) := by decide +kernel
theorem dL_law_502 : decode code 502 = .ok (.ireturn, 1) := by decide +kernel
theorem dL_law_503 : decode code 503 = .ok (.aload_n 1, 1) := by decide +kernel
theorem dL_law_504 : decode code 504 = .ok (.aload_n 0, 1) := by decide +kernel
theorem dL_law_505 : decode code 505 = .ok (.iload_n 3, 1) := by decide +kernel
theorem dL_law_506 : decode code 506 = .ok (.iconst 1, 1) := by decide +kernel
theorem dL_law_507 : decode code 507 = .ok (.iadd, 1) := by decide +kernel
theorem dL_law_508 : decode code 508 = .ok (.iaload, 1) := by decide +kernel
theorem dL_law_509 : decode code 509 = .ok (.aload_n 0, 1) := by decide +kernel
theorem dL_law_510 : decode code 510 = .ok (.iload_n 3, 1) := by decide +kernel
theorem dL_law_511 : decode code 511 = .ok (.iconst 2, 1) := by decide +kernel
theorem dL_law_512 : decode code 512 = .ok (.iadd, 1) := by decide +kernel
theorem dL_law_513 : decode code 513 = .ok (.iaload, 1) := by decide +kernel
theorem dL_law_514 : decode code 514 = .ok (.invokevirtual 60, 3) := by decide +kernel
theorem dL_law_517 : decode code 517 = .ok (.aload_n 2, 1) := by decide +kernel
theorem dL_law_518 : decode code 518 = .ok (.aload_n 0, 1) := by decide +kernel
theorem dL_law_519 : decode code 519 = .ok (.iload_n 3, 1) := by decide +kernel
theorem dL_law_520 : decode code 520 = .ok (.iconst 1, 1) := by decide +kernel
theorem dL_law_521 : decode code 521 = .ok (.iadd, 1) := by decide +kernel
theorem dL_law_522 : decode code 522 = .ok (.iaload, 1) := by decide +kernel
theorem dL_law_523 : decode code 523 = .ok (.aload_n 0, 1) := by decide +kernel
theorem dL_law_524 : decode code 524 = .ok (.iload_n 3, 1) := by decide +kernel
theorem dL_law_525 : decode code 525 = .ok (.iconst 2, 1) := by decide +kernel
theorem dL_law_526 : decode code 526 = .ok (.iadd, 1) := by decide +kernel
theorem dL_law_527 : decode code 527 = .ok (.iaload, 1) := by decide +kernel
theorem dL_law_528 : decode code 528 = .ok (.invokevirtual 63, 3) := by decide +kernel
theorem dL_law_531 : decode code 531 = .ok (.if_icmp .eq 860, 3) := by decide +kernel
theorem dL_law_534 : decode code 534 = .ok (.iconst 0, 1) := by decide +kernel
theorem dL_law_535 : decode code 535 = .ok (.ireturn, 1) := by decide +kernel
theorem dL_law_536 : decode code 536 = .ok (.aload_n 1, 1) := by decide +kernel
theorem dL_law_537 : decode code 537 = .ok (.aload_n 0, 1) := by decide +kernel
theorem dL_law_538 : decode code 538 = .ok (.iload_n 3, 1) := by decide +kernel
theorem dL_law_539 : decode code 539 = .ok (.iconst 1, 1) := by decide +kernel
theorem dL_law_540 : decode code 540 = .ok (.iadd, 1) := by decide +kernel
theorem dL_law_541 : decode code 541 = .ok (.iaload, 1) := by decide +kernel
theorem dL_law_542 : decode code 542 = .ok (.aload_n 0, 1) := by decide +kernel
theorem dL_law_543 : decode code 543 = .ok (.iload_n 3, 1) := by decide +kernel
theorem dL_law_544 : decode code 544 = .ok (.iconst 2, 1) := by decide +kernel
theorem dL_law_545 : decode code 545 = .ok (.iadd, 1) := by decide +kernel
theorem dL_law_546 : decode code 546 = .ok (.iaload, 1) := by decide +kernel
theorem dL_law_547 : decode code 547 = .ok (.invokevirtual 64, 3) := by decide +kernel
theorem dL_law_550 : decode code 550 = .ok (.aload_n 2, 1) := by decide +kernel
theorem dL_law_551 : decode code 551 = .ok (.aload_n 0, 1) := by decide +kernel
theorem dL_law_552 : decode code 552 = .ok (.iload_n 3, 1) := by decide +kernel
theorem dL_law_553 : decode code 553 = .ok (.iconst 1, 1) := by decide +kernel
theorem dL_law_554 : decode code 554 = .ok (.iadd, 1) := by decide +kernel
theorem dL_law_555 : decode code 555 = .ok (.iaload, 1) := by decide +kernel
theorem dL_law_556 : decode code 556 = .ok (.aload_n 0, 1) := by decide +kernel
theorem dL_law_557 : decode code 557 = .ok (.iload_n 3, 1) := by decide +kernel
theorem dL_law_558 : decode code 558 = .ok (.iconst 2, 1) := by decide +kernel
theorem dL_law_559 : decode code 559 = .ok (.iadd, 1) := by decide +kernel
theorem dL_law_560 : decode code 560 = .ok (.iaload, 1) := by decide +kernel
theorem dL_law_561 : decode code 561 = .ok (.invokevirtual 67, 3) := by decide +kernel
theorem dL_law_564 : decode code 564 = .ok (.if_icmp .eq 827, 3) := by decide +kernel
theorem dL_law_567 : decode code 567 = .ok (.iconst 0, 1) := by decide +kernel
theorem dL_law_568 : decode code 568 = .ok (.ireturn, 1) := by decide +kernel
theorem dL_law_569 : decode code 569 = .ok (.aload_n 1, 1) := by decide +kernel
theorem dL_law_570 : decode code 570 = .ok (.aload_n 0, 1) := by decide +kernel
theorem dL_law_571 : decode code 571 = .ok (.iload_n 3, 1) := by decide +kernel
theorem dL_law_572 : decode code 572 = .ok (.iconst 1, 1) := by decide +kernel
theorem dL_law_573 : decode code 573 = .ok (.iadd, 1) := by decide +kernel
theorem dL_law_574 : decode code 574 = .ok (.iaload, 1) := by decide +kernel
theorem dL_law_575 : decode code 575 = .ok (.aload_n 0, 1) := by decide +kernel
theorem dL_law_576 : decode code 576 = .ok (.iload_n 3, 1) := by decide +kernel
theorem dL_law_577 : decode code 577 = .ok (.iconst 2, 1) := by decide +kernel
theorem dL_law_578 : decode code 578 = .ok (.iadd, 1) := by decide +kernel
theorem dL_law_579 : decode code 579 = .ok (.iaload, 1) := by decide +kernel
theorem dL_law_580 : decode code 580 = .ok (.invokevirtual 68, 3) := by decide +kernel
theorem dL_law_583 : decode code 583 = .ok (.aload_n 2, 1) := by decide +kernel
theorem dL_law_584 : decode code 584 = .ok (.aload_n 0, 1) := by decide +kernel
theorem dL_law_585 : decode code 585 = .ok (.iload_n 3, 1) := by decide +kernel
theorem dL_law_586 : decode code 586 = .ok (.iconst 1, 1) := by decide +kernel
theorem dL_law_587 : decode code 587 = .ok (.iadd, 1) := by decide +kernel
theorem dL_law_588 : decode code 588 = .ok (.iaload, 1) := by decide +kernel
theorem dL_law_589 : decode code 589 = .ok (.aload_n 0, 1) := by decide +kernel
theorem dL_law_590 : decode code 590 = .ok (.iload_n 3, 1) := by decide +kernel
theorem dL_law_591 : decode code 591 = .ok (.iconst 2, 1) := by decide +kernel
theorem dL_law_592 : decode code 592 = .ok (.iadd, 1) := by decide +kernel
theorem dL_law_593 : decode code 593 = .ok (.iaload, 1) := by decide +kernel
theorem dL_law_594 : decode code 594 = .ok (.invokevirtual 71, 3) := by decide +kernel
theorem dL_law_597 : decode code 597 = .ok (.if_icmp .eq 794, 3) := by decide +kernel
theorem dL_law_600 : decode code 600 = .ok (.iconst 0, 1) := by decide +kernel
theorem dL_law_601 : decode code 601 = .ok (.ireturn, 1) := by decide +kernel
theorem dL_law_602 : decode code 602 = .ok (.aload_n 1, 1) := by decide +kernel
theorem dL_law_603 : decode code 603 = .ok (.invokevirtual 72, 3) := by decide +kernel
theorem dL_law_606 : decode code 606 = .ok (.aload_n 2, 1) := by decide +kernel
theorem dL_law_607 : decode code 607 = .ok (.invokevirtual 75, 3) := by decide +kernel
theorem dL_law_610 : decode code 610 = .ok (.if_icmp .eq 781, 3) := by decide +kernel
theorem dL_law_613 : decode code 613 = .ok (.iconst 0, 1) := by decide +kernel
theorem dL_law_614 : decode code 614 = .ok (.ireturn, 1) := by decide +kernel
theorem dL_law_615 : decode code 615 = .ok (.aload_n 1, 1) := by decide +kernel
theorem dL_law_616 : decode code 616 = .ok (.aload_n 0, 1) := by decide +kernel
theorem dL_law_617 : decode code 617 = .ok (.iload_n 3, 1) := by decide +kernel
theorem dL_law_618 : decode code 618 = .ok (.iconst 1, 1) := by decide +kernel
theorem dL_law_619 : decode code 619 = .ok (.iadd, 1) := by decide +kernel
theorem dL_law_620 : decode code 620 = .ok (.iaload, 1) := by decide +kernel
theorem dL_law_621 : decode code 621 = .ok (.aload_n 0, 1) := by decide +kernel
theorem dL_law_622 : decode code 622 = .ok (.iload_n 3, 1) := by decide +kernel
theorem dL_law_623 : decode code 623 = .ok (.iconst 2, 1) := by decide +kernel
theorem dL_law_624 : decode code 624 = .ok (.iadd, 1) := by decide +kernel
theorem dL_law_625 : decode code 625 = .ok (.iaload, 1) := by decide +kernel
theorem dL_law_626 : decode code 626 = .ok (.invokevirtual 76, 3) := by decide +kernel
theorem dL_law_629 : decode code 629 = .ok (.aload_n 2, 1) := by decide +kernel
theorem dL_law_630 : decode code 630 = .ok (.aload_n 0, 1) := by decide +kernel
theorem dL_law_631 : decode code 631 = .ok (.iload_n 3, 1) := by decide +kernel
theorem dL_law_632 : decode code 632 = .ok (.iconst 1, 1) := by decide +kernel
theorem dL_law_633 : decode code 633 = .ok (.iadd, 1) := by decide +kernel
theorem dL_law_634 : decode code 634 = .ok (.iaload, 1) := by decide +kernel
theorem dL_law_635 : decode code 635 = .ok (.aload_n 0, 1) := by decide +kernel
theorem dL_law_636 : decode code 636 = .ok (.iload_n 3, 1) := by decide +kernel
theorem dL_law_637 : decode code 637 = .ok (.iconst 2, 1) := by decide +kernel
theorem dL_law_638 : decode code 638 = .ok (.iadd, 1) := by decide +kernel
theorem dL_law_639 : decode code 639 = .ok (.iaload, 1) := by decide +kernel
theorem dL_law_640 : decode code 640 = .ok (.invokevirtual 79, 3) := by decide +kernel
theorem dL_law_643 : decode code 643 = .ok (.if_icmp .eq 748, 3) := by decide +kernel
theorem dL_law_646 : decode code 646 = .ok (.iconst 0, 1) := by decide +kernel
theorem dL_law_647 : decode code 647 = .ok (.ireturn, 1) := by decide +kernel
theorem dL_law_648 : decode code 648 = .ok (.aload_n 1, 1) := by decide +kernel
theorem dL_law_649 : decode code 649 = .ok (.aload_n 0, 1) := by decide +kernel
theorem dL_law_650 : decode code 650 = .ok (.iload_n 3, 1) := by decide +kernel
theorem dL_law_651 : decode code 651 = .ok (.iconst 1, 1) := by decide +kernel
theorem dL_law_652 : decode code 652 = .ok (.iadd, 1) := by decide +kernel
theorem dL_law_653 : decode code 653 = .ok (.iaload, 1) := by decide +kernel
theorem dL_law_654 : decode code 654 = .ok (.invokevirtual 80, 3) := by decide +kernel
theorem dL_law_657 : decode code 657 = .ok (.aload_n 2, 1) := by decide +kernel
theorem dL_law_658 : decode code 658 = .ok (.aload_n 0, 1) := by decide +kernel
theorem dL_law_659 : decode code 659 = .ok (.iload_n 3, 1) := by decide +kernel
theorem dL_law_660 : decode code 660 = .ok (.iconst 1, 1) := by decide +kernel
theorem dL_law_661 : decode code 661 = .ok (.iadd, 1) := by decide +kernel
theorem dL_law_662 : decode code 662 = .ok (.iaload, 1) := by decide +kernel
theorem dL_law_663 : decode code 663 = .ok (.invokevirtual 83, 3) := by decide +kernel
theorem dL_law_666 : decode code 666 = .ok (.if_icmp .eq 725, 3) := by decide +kernel
theorem dL_law_669 : decode code 669 = .ok (.iconst 0, 1) := by decide +kernel
theorem dL_law_670 : decode code 670 = .ok (.ireturn, 1) := by decide +kernel
theorem dL_law_671 : decode code 671 = .ok (.aload_n 1, 1) := by decide +kernel
theorem dL_law_672 : decode code 672 = .ok (.aload_n 0, 1) := by decide +kernel
theorem dL_law_673 : decode code 673 = .ok (.iload_n 3, 1) := by decide +kernel
theorem dL_law_674 : decode code 674 = .ok (.iconst 1, 1) := by decide +kernel
theorem dL_law_675 : decode code 675 = .ok (.iadd, 1) := by decide +kernel
theorem dL_law_676 : decode code 676 = .ok (.iaload, 1) := by decide +kernel
theorem dL_law_677 : decode code 677 = .ok (.aload_n 0, 1) := by decide +kernel
theorem dL_law_678 : decode code 678 = .ok (.iload_n 3, 1) := by decide +kernel
theorem dL_law_679 : decode code 679 = .ok (.iconst 2, 1) := by decide +kernel
theorem dL_law_680 : decode code 680 = .ok (.iadd, 1) := by decide +kernel
theorem dL_law_681 : decode code 681 = .ok (.iaload, 1) := by decide +kernel
theorem dL_law_682 : decode code 682 = .ok (.invokevirtual 84, 3) := by decide +kernel
theorem dL_law_685 : decode code 685 = .ok (.aload_n 2, 1) := by decide +kernel
theorem dL_law_686 : decode code 686 = .ok (.aload_n 0, 1) := by decide +kernel
theorem dL_law_687 : decode code 687 = .ok (.iload_n 3, 1) := by decide +kernel
theorem dL_law_688 : decode code 688 = .ok (.iconst 1, 1) := by decide +kernel
theorem dL_law_689 : decode code 689 = .ok (.iadd, 1) := by decide +kernel
theorem dL_law_690 : decode code 690 = .ok (.iaload, 1) := by decide +kernel
theorem dL_law_691 : decode code 691 = .ok (.aload_n 0, 1) := by decide +kernel
theorem dL_law_692 : decode code 692 = .ok (.iload_n 3, 1) := by decide +kernel
theorem dL_law_693 : decode code 693 = .ok (.iconst 2, 1) := by decide +kernel
theorem dL_law_694 : decode code 694 = .ok (.iadd, 1) := by decide +kernel
theorem dL_law_695 : decode code 695 = .ok (.iaload, 1) := by decide +kernel
theorem dL_law_696 : decode code 696 = .ok (.invokevirtual 87, 3) := by decide +kernel
theorem dL_law_699 : decode code 699 = .ok (.if_icmp .eq 692, 3) := by decide +kernel
theorem dL_law_702 : decode code 702 = .ok (.iconst 0, 1) := by decide +kernel
theorem dL_law_703 : decode code 703 = .ok (.ireturn, 1) := by decide +kernel
theorem dL_law_704 : decode code 704 = .ok (.aload_n 1, 1) := by decide +kernel
theorem dL_law_705 : decode code 705 = .ok (.invokevirtual 88, 3) := by decide +kernel
theorem dL_law_708 : decode code 708 = .ok (.aload_n 2, 1) := by decide +kernel
theorem dL_law_709 : decode code 709 = .ok (.invokevirtual 91, 3) := by decide +kernel
theorem dL_law_712 : decode code 712 = .ok (.if_icmp .eq 679, 3) := by decide +kernel
theorem dL_law_715 : decode code 715 = .ok (.iconst 0, 1) := by decide +kernel
theorem dL_law_716 : decode code 716 = .ok (.ireturn, 1) := by decide +kernel
theorem dL_law_717 : decode code 717 = .ok (.aload_n 1, 1) := by decide +kernel
theorem dL_law_718 : decode code 718 = .ok (.aload_n 0, 1) := by decide +kernel
theorem dL_law_719 : decode code 719 = .ok (.iload_n 3, 1) := by decide +kernel
theorem dL_law_720 : decode code 720 = .ok (.iconst 1, 1) := by decide +kernel
theorem dL_law_721 : decode code 721 = .ok (.iadd, 1) := by decide +kernel
theorem dL_law_722 : decode code 722 = .ok (.iaload, 1) := by decide +kernel
theorem dL_law_723 : decode code 723 = .ok (.invokevirtual 92, 3) := by decide +kernel
theorem dL_law_726 : decode code 726 = .ok (.aload_n 2, 1) := by decide +kernel
theorem dL_law_727 : decode code 727 = .ok (.aload_n 0, 1) := by decide +kernel
theorem dL_law_728 : decode code 728 = .ok (.iload_n 3, 1) := by decide +kernel
theorem dL_law_729 : decode code 729 = .ok (.iconst 1, 1) := by decide +kernel
theorem dL_law_730 : decode code 730 = .ok (.iadd, 1) := by decide +kernel
theorem dL_law_731 : decode code 731 = .ok (.iaload, 1) := by decide +kernel
theorem dL_law_732 : decode code 732 = .ok (.invokevirtual 95, 3) := by decide +kernel
theorem dL_law_735 : decode code 735 = .ok (.if_icmp .eq 656, 3) := by decide +kernel
theorem dL_law_738 : decode code 738 = .ok (.iconst 0, 1) := by decide +kernel
theorem dL_law_739 : decode code 739 = .ok (.ireturn, 1) := by decide +kernel
theorem dL_law_740 : decode code 740 = .ok (.aload_n 1, 1) := by decide +kernel
theorem dL_law_741 : decode code 741 = .ok (.aload_n 0, 1) := by decide +kernel
theorem dL_law_742 : decode code 742 = .ok (.iload_n 3, 1) := by decide +kernel
theorem dL_law_743 : decode code 743 = .ok (.iconst 1, 1) := by decide +kernel
theorem dL_law_744 : decode code 744 = .ok (.iadd, 1) := by decide +kernel
theorem dL_law_745 : decode code 745 = .ok (.iaload, 1) := by decide +kernel
theorem dL_law_746 : decode code 746 = .ok (.invokevirtual 96, 3) := by decide +kernel
theorem dL_law_749 : decode code 749 = .ok (.aload_n 2, 1) := by decide +kernel
theorem dL_law_750 : decode code 750 = .ok (.aload_n 0, 1) := by decide +kernel
theorem dL_law_751 : decode code 751 = .ok (.iload_n 3, 1) := by decide +kernel
theorem dL_law_752 : decode code 752 = .ok (.iconst 1, 1) := by decide +kernel
theorem dL_law_753 : decode code 753 = .ok (.iadd, 1) := by decide +kernel
theorem dL_law_754 : decode code 754 = .ok (.iaload, 1) := by decide +kernel
theorem dL_law_755 : decode code 755 = .ok (.invokevirtual 99, 3) := by decide +kernel
theorem dL_law_758 : decode code 758 = .ok (.if_icmp .eq 633, 3) := by decide +kernel
theorem dL_law_761 : decode code 761 = .ok (.iconst 0, 1) := by decide +kernel
theorem dL_law_762 : decode code 762 = .ok (.ireturn, 1) := by decide +kernel
theorem dL_law_763 : decode code 763 = .ok (.aload_n 1, 1) := by decide +kernel
theorem dL_law_764 : decode code 764 = .ok (.aload_n 0, 1) := by decide +kernel
theorem dL_law_765 : decode code 765 = .ok (.iload_n 3, 1) := by decide +kernel
theorem dL_law_766 : decode code 766 = .ok (.iconst 1, 1) := by decide +kernel
theorem dL_law_767 : decode code 767 = .ok (.iadd, 1) := by decide +kernel
theorem dL_law_768 : decode code 768 = .ok (.iaload, 1) := by decide +kernel
theorem dL_law_769 : decode code 769 = .ok (.aload_n 0, 1) := by decide +kernel
theorem dL_law_770 : decode code 770 = .ok (.iload_n 3, 1) := by decide +kernel
theorem dL_law_771 : decode code 771 = .ok (.iconst 2, 1) := by decide +kernel
theorem dL_law_772 : decode code 772 = .ok (.iadd, 1) := by decide +kernel
theorem dL_law_773 : decode code 773 = .ok (.iaload, 1) := by decide +kernel
theorem dL_law_774 : decode code 774 = .ok (.invokevirtual 100, 3) := by decide +kernel
theorem dL_law_777 : decode code 777 = .ok (.aload_n 2, 1) := by decide +kernel
theorem dL_law_778 : decode code 778 = .ok (.aload_n 0, 1) := by decide +kernel
theorem dL_law_779 : decode code 779 = .ok (.iload_n 3, 1) := by decide +kernel
theorem dL_law_780 : decode code 780 = .ok (.iconst 1, 1) := by decide +kernel
theorem dL_law_781 : decode code 781 = .ok (.iadd, 1) := by decide +kernel
theorem dL_law_782 : decode code 782 = .ok (.iaload, 1) := by decide +kernel
theorem dL_law_783 : decode code 783 = .ok (.aload_n 0, 1) := by decide +kernel
theorem dL_law_784 : decode code 784 = .ok (.iload_n 3, 1) := by decide +kernel
theorem dL_law_785 : decode code 785 = .ok (.iconst 2, 1) := by decide +kernel
theorem dL_law_786 : decode code 786 = .ok (.iadd, 1) := by decide +kernel
theorem dL_law_787 : decode code 787 = .ok (.iaload, 1) := by decide +kernel
theorem dL_law_788 : decode code 788 = .ok (.invokevirtual 103, 3) := by decide +kernel
theorem dL_law_791 : decode code 791 = .ok (.if_icmp .eq 600, 3) := by decide +kernel
theorem dL_law_794 : decode code 794 = .ok (.iconst 0, 1) := by decide +kernel
theorem dL_law_795 : decode code 795 = .ok (.ireturn, 1) := by decide +kernel
theorem dL_law_796 : decode code 796 = .ok (.aload_n 1, 1) := by decide +kernel
theorem dL_law_797 : decode code 797 = .ok (.aload_n 0, 1) := by decide +kernel
theorem dL_law_798 : decode code 798 = .ok (.iload_n 3, 1) := by decide +kernel
theorem dL_law_799 : decode code 799 = .ok (.iconst 1, 1) := by decide +kernel
theorem dL_law_800 : decode code 800 = .ok (.iadd, 1) := by decide +kernel
theorem dL_law_801 : decode code 801 = .ok (.iaload, 1) := by decide +kernel
theorem dL_law_802 : decode code 802 = .ok (.invokevirtual 104, 3) := by decide +kernel
theorem dL_law_805 : decode code 805 = .ok (.aload_n 2, 1) := by decide +kernel
theorem dL_law_806 : decode code 806 = .ok (.aload_n 0, 1) := by decide +kernel
theorem dL_law_807 : decode code 807 = .ok (.iload_n 3, 1) := by decide +kernel
theorem dL_law_808 : decode code 808 = .ok (.iconst 1, 1) := by decide +kernel
theorem dL_law_809 : decode code 809 = .ok (.iadd, 1) := by decide +kernel
theorem dL_law_810 : decode code 810 = .ok (.iaload, 1) := by decide +kernel
theorem dL_law_811 : decode code 811 = .ok (.invokevirtual 107, 3) := by decide +kernel
theorem dL_law_814 : decode code 814 = .ok (.if_icmp .eq 577, 3) := by decide +kernel
theorem dL_law_817 : decode code 817 = .ok (.iconst 0, 1) := by decide +kernel
theorem dL_law_818 : decode code 818 = .ok (.ireturn, 1) := by decide +kernel
theorem dL_law_819 : decode code 819 = .ok (.aload_n 1, 1) := by decide +kernel
theorem dL_law_820 : decode code 820 = .ok (.aload_n 0, 1) := by decide +kernel
theorem dL_law_821 : decode code 821 = .ok (.iload_n 3, 1) := by decide +kernel
theorem dL_law_822 : decode code 822 = .ok (.iconst 1, 1) := by decide +kernel
theorem dL_law_823 : decode code 823 = .ok (.iadd, 1) := by decide +kernel
theorem dL_law_824 : decode code 824 = .ok (.iaload, 1) := by decide +kernel
theorem dL_law_825 : decode code 825 = .ok (.invokevirtual 108, 3) := by decide +kernel
theorem dL_law_828 : decode code 828 = .ok (.aload_n 2, 1) := by decide +kernel
theorem dL_law_829 : decode code 829 = .ok (.aload_n 0, 1) := by decide +kernel
theorem dL_law_830 : decode code 830 = .ok (.iload_n 3, 1) := by decide +kernel
theorem dL_law_831 : decode code 831 = .ok (.iconst 1, 1) := by decide +kernel
theorem dL_law_832 : decode code 832 = .ok (.iadd, 1) := by decide +kernel
theorem dL_law_833 : decode code 833 = .ok (.iaload, 1) := by decide +kernel
theorem dL_law_834 : decode code 834 = .ok (.invokevirtual 111, 3) := by decide +kernel
theorem dL_law_837 : decode code 837 = .ok (.if_icmp .eq 554, 3) := by decide +kernel
theorem dL_law_840 : decode code 840 = .ok (.iconst 0, 1) := by decide +kernel
theorem dL_law_841 : decode code 841 = .ok (.ireturn, 1) := by decide +kernel
theorem dL_law_842 : decode code 842 = .ok (.aload_n 1, 1) := by decide +kernel
theorem dL_law_843 : decode code 843 = .ok (.aload_n 0, 1) := by decide +kernel
theorem dL_law_844 : decode code 844 = .ok (.iload_n 3, 1) := by decide +kernel
theorem dL_law_845 : decode code 845 = .ok (.iconst 1, 1) := by decide +kernel
theorem dL_law_846 : decode code 846 = .ok (.iadd, 1) := by decide +kernel
theorem dL_law_847 : decode code 847 = .ok (.iaload, 1) := by decide +kernel
theorem dL_law_848 : decode code 848 = .ok (.invokevirtual 112, 3) := by decide +kernel
theorem dL_law_851 : decode code 851 = .ok (.aload_n 2, 1) := by decide +kernel
theorem dL_law_852 : decode code 852 = .ok (.aload_n 0, 1) := by decide +kernel
theorem dL_law_853 : decode code 853 = .ok (.iload_n 3, 1) := by decide +kernel
theorem dL_law_854 : decode code 854 = .ok (.iconst 1, 1) := by decide +kernel
theorem dL_law_855 : decode code 855 = .ok (.iadd, 1) := by decide +kernel
theorem dL_law_856 : decode code 856 = .ok (.iaload, 1) := by decide +kernel
theorem dL_law_857 : decode code 857 = .ok (.invokevirtual 115, 3) := by decide +kernel
theorem dL_law_860 : decode code 860 = .ok (.if_icmp .eq 531, 3) := by decide +kernel
theorem dL_law_863 : decode code 863 = .ok (.iconst 0, 1) := by decide +kernel
theorem dL_law_864 : decode code 864 = .ok (.ireturn, 1) := by decide +kernel
theorem dL_law_865 : decode code 865 = .ok (.aload_n 1, 1) := by decide +kernel
theorem dL_law_866 : decode code 866 = .ok (.aload_n 0, 1) := by decide +kernel
theorem dL_law_867 : decode code 867 = .ok (.iload_n 3, 1) := by decide +kernel
theorem dL_law_868 : decode code 868 = .ok (.iconst 1, 1) := by decide +kernel
theorem dL_law_869 : decode code 869 = .ok (.iadd, 1) := by decide +kernel
theorem dL_law_870 : decode code 870 = .ok (.iaload, 1) := by decide +kernel
theorem dL_law_871 : decode code 871 = .ok (.invokevirtual 116, 3) := by decide +kernel
theorem dL_law_874 : decode code 874 = .ok (.aload_n 2, 1) := by decide +kernel
theorem dL_law_875 : decode code 875 = .ok (.aload_n 0, 1) := by decide +kernel
theorem dL_law_876 : decode code 876 = .ok (.iload_n 3, 1) := by decide +kernel
theorem dL_law_877 : decode code 877 = .ok (.iconst 1, 1) := by decide +kernel
theorem dL_law_878 : decode code 878 = .ok (.iadd, 1) := by decide +kernel
theorem dL_law_879 : decode code 879 = .ok (.iaload, 1) := by decide +kernel
theorem dL_law_880 : decode code 880 = .ok (.invokevirtual 119, 3) := by decide +kernel
theorem dL_law_883 : decode code 883 = .ok (.if_icmp .eq 508, 3) := by decide +kernel
theorem dL_law_886 : decode code 886 = .ok (.iconst 0, 1) := by decide +kernel
theorem dL_law_887 : decode code 887 = .ok (.ireturn, 1) := by decide +kernel
theorem dL_law_888 : decode code 888 = .ok (.aload_n 1, 1) := by decide +kernel
theorem dL_law_889 : decode code 889 = .ok (.aload_n 0, 1) := by decide +kernel
theorem dL_law_890 : decode code 890 = .ok (.iload_n 3, 1) := by decide +kernel
theorem dL_law_891 : decode code 891 = .ok (.iconst 1, 1) := by decide +kernel
theorem dL_law_892 : decode code 892 = .ok (.iadd, 1) := by decide +kernel
theorem dL_law_893 : decode code 893 = .ok (.iaload, 1) := by decide +kernel
theorem dL_law_894 : decode code 894 = .ok (.invokevirtual 120, 3) := by decide +kernel
theorem dL_law_897 : decode code 897 = .ok (.aload_n 2, 1) := by decide +kernel
theorem dL_law_898 : decode code 898 = .ok (.aload_n 0, 1) := by decide +kernel
theorem dL_law_899 : decode code 899 = .ok (.iload_n 3, 1) := by decide +kernel
theorem dL_law_900 : decode code 900 = .ok (.iconst 1, 1) := by decide +kernel
theorem dL_law_901 : decode code 901 = .ok (.iadd, 1) := by decide +kernel
theorem dL_law_902 : decode code 902 = .ok (.iaload, 1) := by decide +kernel
theorem dL_law_903 : decode code 903 = .ok (.invokevirtual 123, 3) := by decide +kernel
theorem dL_law_906 : decode code 906 = .ok (.if_icmp .eq 485, 3) := by decide +kernel
theorem dL_law_909 : decode code 909 = .ok (.iconst 0, 1) := by decide +kernel
theorem dL_law_910 : decode code 910 = .ok (.ireturn, 1) := by decide +kernel
theorem dL_law_911 : decode code 911 = .ok (.aload_n 1, 1) := by decide +kernel
theorem dL_law_912 : decode code 912 = .ok (.aload_n 0, 1) := by decide +kernel
theorem dL_law_913 : decode code 913 = .ok (.iload_n 3, 1) := by decide +kernel
theorem dL_law_914 : decode code 914 = .ok (.iconst 1, 1) := by decide +kernel
theorem dL_law_915 : decode code 915 = .ok (.iadd, 1) := by decide +kernel
theorem dL_law_916 : decode code 916 = .ok (.iaload, 1) := by decide +kernel
theorem dL_law_917 : decode code 917 = .ok (.invokevirtual 124, 3) := by decide +kernel
theorem dL_law_920 : decode code 920 = .ok (.aload_n 2, 1) := by decide +kernel
theorem dL_law_921 : decode code 921 = .ok (.aload_n 0, 1) := by decide +kernel
theorem dL_law_922 : decode code 922 = .ok (.iload_n 3, 1) := by decide +kernel
theorem dL_law_923 : decode code 923 = .ok (.iconst 1, 1) := by decide +kernel
theorem dL_law_924 : decode code 924 = .ok (.iadd, 1) := by decide +kernel
theorem dL_law_925 : decode code 925 = .ok (.iaload, 1) := by decide +kernel
theorem dL_law_926 : decode code 926 = .ok (.invokevirtual 127, 3) := by decide +kernel
theorem dL_law_929 : decode code 929 = .ok (.if_icmp .eq 462, 3) := by decide +kernel
theorem dL_law_932 : decode code 932 = .ok (.iconst 0, 1) := by decide +kernel
theorem dL_law_933 : decode code 933 = .ok (.ireturn, 1) := by decide +kernel
theorem dL_law_934 : decode code 934 = .ok (.aload_n 1, 1) := by decide +kernel
theorem dL_law_935 : decode code 935 = .ok (.aload_n 0, 1) := by decide +kernel
theorem dL_law_936 : decode code 936 = .ok (.iload_n 3, 1) := by decide +kernel
theorem dL_law_937 : decode code 937 = .ok (.iconst 1, 1) := by decide +kernel
theorem dL_law_938 : decode code 938 = .ok (.iadd, 1) := by decide +kernel
theorem dL_law_939 : decode code 939 = .ok (.iaload, 1) := by decide +kernel
theorem dL_law_940 : decode code 940 = .ok (.invokevirtual 128, 3) := by decide +kernel
theorem dL_law_943 : decode code 943 = .ok (.aload_n 2, 1) := by decide +kernel
theorem dL_law_944 : decode code 944 = .ok (.aload_n 0, 1) := by decide +kernel
theorem dL_law_945 : decode code 945 = .ok (.iload_n 3, 1) := by decide +kernel
theorem dL_law_946 : decode code 946 = .ok (.iconst 1, 1) := by decide +kernel
theorem dL_law_947 : decode code 947 = .ok (.iadd, 1) := by decide +kernel
theorem dL_law_948 : decode code 948 = .ok (.iaload, 1) := by decide +kernel
theorem dL_law_949 : decode code 949 = .ok (.invokevirtual 131, 3) := by decide +kernel
theorem dL_law_952 : decode code 952 = .ok (.if_icmp .eq 439, 3) := by decide +kernel
theorem dL_law_955 : decode code 955 = .ok (.iconst 0, 1) := by decide +kernel
theorem dL_law_956 : decode code 956 = .ok (.ireturn, 1) := by decide +kernel
theorem dL_law_957 : decode code 957 = .ok (.aload_n 1, 1) := by decide +kernel
theorem dL_law_958 : decode code 958 = .ok (.aload_n 0, 1) := by decide +kernel
theorem dL_law_959 : decode code 959 = .ok (.iload_n 3, 1) := by decide +kernel
theorem dL_law_960 : decode code 960 = .ok (.iconst 1, 1) := by decide +kernel
theorem dL_law_961 : decode code 961 = .ok (.iadd, 1) := by decide +kernel
theorem dL_law_962 : decode code 962 = .ok (.iaload, 1) := by decide +kernel
theorem dL_law_963 : decode code 963 = .ok (.aload_n 0, 1) := by decide +kernel
theorem dL_law_964 : decode code 964 = .ok (.iload_n 3, 1) := by decide +kernel
theorem dL_law_965 : decode code 965 = .ok (.iconst 2, 1) := by decide +kernel
theorem dL_law_966 : decode code 966 = .ok (.iadd, 1) := by decide +kernel
theorem dL_law_967 : decode code 967 = .ok (.iaload, 1) := by decide +kernel
theorem dL_law_968 : decode code 968 = .ok (.aload_n 0, 1) := by decide +kernel
theorem dL_law_969 : decode code 969 = .ok (.iload_n 3, 1) := by decide +kernel
theorem dL_law_970 : decode code 970 = .ok (.iconst 3, 1) := by decide +kernel
theorem dL_law_971 : decode code 971 = .ok (.iadd, 1) := by decide +kernel
theorem dL_law_972 : decode code 972 = .ok (.iaload, 1) := by decide +kernel
theorem dL_law_973 : decode code 973 = .ok (.invokevirtual 132, 3) := by decide +kernel
theorem dL_law_976 : decode code 976 = .ok (.aload_n 2, 1) := by decide +kernel
theorem dL_law_977 : decode code 977 = .ok (.aload_n 0, 1) := by decide +kernel
theorem dL_law_978 : decode code 978 = .ok (.iload_n 3, 1) := by decide +kernel
theorem dL_law_979 : decode code 979 = .ok (.iconst 1, 1) := by decide +kernel
theorem dL_law_980 : decode code 980 = .ok (.iadd, 1) := by decide +kernel
theorem dL_law_981 : decode code 981 = .ok (.iaload, 1) := by decide +kernel
theorem dL_law_982 : decode code 982 = .ok (.aload_n 0, 1) := by decide +kernel
theorem dL_law_983 : decode code 983 = .ok (.iload_n 3, 1) := by decide +kernel
theorem dL_law_984 : decode code 984 = .ok (.iconst 2, 1) := by decide +kernel
theorem dL_law_985 : decode code 985 = .ok (.iadd, 1) := by decide +kernel
theorem dL_law_986 : decode code 986 = .ok (.iaload, 1) := by decide +kernel
theorem dL_law_987 : decode code 987 = .ok (.aload_n 0, 1) := by decide +kernel
theorem dL_law_988 : decode code 988 = .ok (.iload_n 3, 1) := by decide +kernel
theorem dL_law_989 : decode code 989 = .ok (.iconst 3, 1) := by decide +kernel
theorem dL_law_990 : decode code 990 = .ok (.iadd, 1) := by decide +kernel
theorem dL_law_991 : decode code 991 = .ok (.iaload, 1) := by decide +kernel
theorem dL_law_992 : decode code 992 = .ok (.invokevirtual 136, 3) := by decide +kernel
theorem dL_law_995 : decode code 995 = .ok (.lcmp, 1) := by decide +kernel
theorem dL_law_996 : decode code 996 = .ok (.ifCond .eq 395, 3) := by decide +kernel
theorem dL_law_999 : decode code 999 = .ok (.iconst 0, 1) := by decide +kernel
theorem dL_law_1000 : decode code 1000 = .ok (.ireturn, 1) := by decide +kernel
theorem dL_law_1001 : decode code 1001 = .ok (.aload_n 1, 1) := by decide +kernel
theorem dL_law_1002 : decode code 1002 = .ok (.aload_n 0, 1) := by decide +kernel
theorem dL_law_1003 : decode code 1003 = .ok (.iload_n 3, 1) := by decide +kernel
theorem dL_law_1004 : decode code 1004 = .ok (.iconst 1, 1) := by decide +kernel
theorem dL_law_1005 : decode code 1005 = .ok (.iadd, 1) := by decide +kernel
theorem dL_law_1006 : decode code 1006 = .ok (.iaload, 1) := by decide +kernel
theorem dL_law_1007 : decode code 1007 = .ok (.aload_n 0, 1) := by decide +kernel
theorem dL_law_1008 : decode code 1008 = .ok (.iload_n 3, 1) := by decide +kernel
theorem dL_law_1009 : decode code 1009 = .ok (.iconst 2, 1) := by decide +kernel
theorem dL_law_1010 : decode code 1010 = .ok (.iadd, 1) := by decide +kernel
theorem dL_law_1011 : decode code 1011 = .ok (.iaload, 1) := by decide +kernel
theorem dL_law_1012 : decode code 1012 = .ok (.invokevirtual 137, 3) := by decide +kernel
theorem dL_law_1015 : decode code 1015 = .ok (.aload_n 2, 1) := by decide +kernel
theorem dL_law_1016 : decode code 1016 = .ok (.aload_n 0, 1) := by decide +kernel
theorem dL_law_1017 : decode code 1017 = .ok (.iload_n 3, 1) := by decide +kernel
theorem dL_law_1018 : decode code 1018 = .ok (.iconst 1, 1) := by decide +kernel
theorem dL_law_1019 : decode code 1019 = .ok (.iadd, 1) := by decide +kernel
theorem dL_law_1020 : decode code 1020 = .ok (.iaload, 1) := by decide +kernel
theorem dL_law_1021 : decode code 1021 = .ok (.aload_n 0, 1) := by decide +kernel
theorem dL_law_1022 : decode code 1022 = .ok (.iload_n 3, 1) := by decide +kernel
theorem dL_law_1023 : decode code 1023 = .ok (.iconst 2, 1) := by decide +kernel
theorem dL_law_1024 : decode code 1024 = .ok (.iadd, 1) := by decide +kernel
theorem dL_law_1025 : decode code 1025 = .ok (.iaload, 1) := by decide +kernel
theorem dL_law_1026 : decode code 1026 = .ok (.invokevirtual 141, 3) := by decide +kernel
theorem dL_law_1029 : decode code 1029 = .ok (.lcmp, 1) := by decide +kernel
theorem dL_law_1030 : decode code 1030 = .ok (.ifCond .eq 361, 3) := by decide +kernel
theorem dL_law_1033 : decode code 1033 = .ok (.iconst 0, 1) := by decide +kernel
theorem dL_law_1034 : decode code 1034 = .ok (.ireturn, 1) := by decide +kernel
theorem dL_law_1035 : decode code 1035 = .ok (.aload_n 1, 1) := by decide +kernel
theorem dL_law_1036 : decode code 1036 = .ok (.aload_n 0, 1) := by decide +kernel
theorem dL_law_1037 : decode code 1037 = .ok (.iload_n 3, 1) := by decide +kernel
theorem dL_law_1038 : decode code 1038 = .ok (.iconst 1, 1) := by decide +kernel
theorem dL_law_1039 : decode code 1039 = .ok (.iadd, 1) := by decide +kernel
theorem dL_law_1040 : decode code 1040 = .ok (.iaload, 1) := by decide +kernel
theorem dL_law_1041 : decode code 1041 = .ok (.aload_n 0, 1) := by decide +kernel
theorem dL_law_1042 : decode code 1042 = .ok (.iload_n 3, 1) := by decide +kernel
theorem dL_law_1043 : decode code 1043 = .ok (.iconst 2, 1) := by decide +kernel
theorem dL_law_1044 : decode code 1044 = .ok (.iadd, 1) := by decide +kernel
theorem dL_law_1045 : decode code 1045 = .ok (.iaload, 1) := by decide +kernel
theorem dL_law_1046 : decode code 1046 = .ok (.invokevirtual 142, 3) := by decide +kernel
theorem dL_law_1049 : decode code 1049 = .ok (.aload_n 2, 1) := by decide +kernel
theorem dL_law_1050 : decode code 1050 = .ok (.aload_n 0, 1) := by decide +kernel
theorem dL_law_1051 : decode code 1051 = .ok (.iload_n 3, 1) := by decide +kernel
theorem dL_law_1052 : decode code 1052 = .ok (.iconst 1, 1) := by decide +kernel
theorem dL_law_1053 : decode code 1053 = .ok (.iadd, 1) := by decide +kernel
theorem dL_law_1054 : decode code 1054 = .ok (.iaload, 1) := by decide +kernel
theorem dL_law_1055 : decode code 1055 = .ok (.aload_n 0, 1) := by decide +kernel
theorem dL_law_1056 : decode code 1056 = .ok (.iload_n 3, 1) := by decide +kernel
theorem dL_law_1057 : decode code 1057 = .ok (.iconst 2, 1) := by decide +kernel
theorem dL_law_1058 : decode code 1058 = .ok (.iadd, 1) := by decide +kernel
theorem dL_law_1059 : decode code 1059 = .ok (.iaload, 1) := by decide +kernel
theorem dL_law_1060 : decode code 1060 = .ok (.invokevirtual 145, 3) := by decide +kernel
theorem dL_law_1063 : decode code 1063 = .ok (.if_icmp .eq 328, 3) := by decide +kernel
theorem dL_law_1066 : decode code 1066 = .ok (.iconst 0, 1) := by decide +kernel
theorem dL_law_1067 : decode code 1067 = .ok (.ireturn, 1) := by decide +kernel
theorem dL_law_1068 : decode code 1068 = .ok (.aload_n 1, 1) := by decide +kernel
theorem dL_law_1069 : decode code 1069 = .ok (.aload_n 0, 1) := by decide +kernel
theorem dL_law_1070 : decode code 1070 = .ok (.iload_n 3, 1) := by decide +kernel
theorem dL_law_1071 : decode code 1071 = .ok (.iconst 1, 1) := by decide +kernel
theorem dL_law_1072 : decode code 1072 = .ok (.iadd, 1) := by decide +kernel
theorem dL_law_1073 : decode code 1073 = .ok (.iaload, 1) := by decide +kernel
theorem dL_law_1074 : decode code 1074 = .ok (.invokevirtual 146, 3) := by decide +kernel
theorem dL_law_1077 : decode code 1077 = .ok (.aload_n 2, 1) := by decide +kernel
theorem dL_law_1078 : decode code 1078 = .ok (.aload_n 0, 1) := by decide +kernel
theorem dL_law_1079 : decode code 1079 = .ok (.iload_n 3, 1) := by decide +kernel
theorem dL_law_1080 : decode code 1080 = .ok (.iconst 1, 1) := by decide +kernel
theorem dL_law_1081 : decode code 1081 = .ok (.iadd, 1) := by decide +kernel
theorem dL_law_1082 : decode code 1082 = .ok (.iaload, 1) := by decide +kernel
theorem dL_law_1083 : decode code 1083 = .ok (.invokevirtual 149, 3) := by decide +kernel
theorem dL_law_1086 : decode code 1086 = .ok (.if_icmp .eq 305, 3) := by decide +kernel
theorem dL_law_1089 : decode code 1089 = .ok (.iconst 0, 1) := by decide +kernel
theorem dL_law_1090 : decode code 1090 = .ok (.ireturn, 1) := by decide +kernel
theorem dL_law_1091 : decode code 1091 = .ok (.aload_n 1, 1) := by decide +kernel
theorem dL_law_1092 : decode code 1092 = .ok (.invokevirtual 150, 3) := by decide +kernel
theorem dL_law_1095 : decode code 1095 = .ok (.aload_n 2, 1) := by decide +kernel
theorem dL_law_1096 : decode code 1096 = .ok (.invokevirtual 153, 3) := by decide +kernel
theorem dL_law_1099 : decode code 1099 = .ok (.if_icmp .eq 292, 3) := by decide +kernel
theorem dL_law_1102 : decode code 1102 = .ok (.iconst 0, 1) := by decide +kernel
theorem dL_law_1103 : decode code 1103 = .ok (.ireturn, 1) := by decide +kernel
theorem dL_law_1104 : decode code 1104 = .ok (.aload_n 1, 1) := by decide +kernel
theorem dL_law_1105 : decode code 1105 = .ok (.aload_n 0, 1) := by decide +kernel
theorem dL_law_1106 : decode code 1106 = .ok (.iload_n 3, 1) := by decide +kernel
theorem dL_law_1107 : decode code 1107 = .ok (.iconst 1, 1) := by decide +kernel
theorem dL_law_1108 : decode code 1108 = .ok (.iadd, 1) := by decide +kernel
theorem dL_law_1109 : decode code 1109 = .ok (.iaload, 1) := by decide +kernel
theorem dL_law_1110 : decode code 1110 = .ok (.invokevirtual 154, 3) := by decide +kernel
theorem dL_law_1113 : decode code 1113 = .ok (.aload_n 2, 1) := by decide +kernel
theorem dL_law_1114 : decode code 1114 = .ok (.aload_n 0, 1) := by decide +kernel
theorem dL_law_1115 : decode code 1115 = .ok (.iload_n 3, 1) := by decide +kernel
theorem dL_law_1116 : decode code 1116 = .ok (.iconst 1, 1) := by decide +kernel
theorem dL_law_1117 : decode code 1117 = .ok (.iadd, 1) := by decide +kernel
theorem dL_law_1118 : decode code 1118 = .ok (.iaload, 1) := by decide +kernel
theorem dL_law_1119 : decode code 1119 = .ok (.invokevirtual 157, 3) := by decide +kernel
theorem dL_law_1122 : decode code 1122 = .ok (.if_icmp .eq 269, 3) := by decide +kernel
theorem dL_law_1125 : decode code 1125 = .ok (.iconst 0, 1) := by decide +kernel
theorem dL_law_1126 : decode code 1126 = .ok (.ireturn, 1) := by decide +kernel
theorem dL_law_1127 : decode code 1127 = .ok (.aload_n 1, 1) := by decide +kernel
theorem dL_law_1128 : decode code 1128 = .ok (.aload_n 0, 1) := by decide +kernel
theorem dL_law_1129 : decode code 1129 = .ok (.iload_n 3, 1) := by decide +kernel
theorem dL_law_1130 : decode code 1130 = .ok (.iconst 1, 1) := by decide +kernel
theorem dL_law_1131 : decode code 1131 = .ok (.iadd, 1) := by decide +kernel
theorem dL_law_1132 : decode code 1132 = .ok (.iaload, 1) := by decide +kernel
theorem dL_law_1133 : decode code 1133 = .ok (.aload_n 0, 1) := by decide +kernel
theorem dL_law_1134 : decode code 1134 = .ok (.iload_n 3, 1) := by decide +kernel
theorem dL_law_1135 : decode code 1135 = .ok (.iconst 2, 1) := by decide +kernel
theorem dL_law_1136 : decode code 1136 = .ok (.iadd, 1) := by decide +kernel
theorem dL_law_1137 : decode code 1137 = .ok (.iaload, 1) := by decide +kernel
theorem dL_law_1138 : decode code 1138 = .ok (.aload_n 0, 1) := by decide +kernel
theorem dL_law_1139 : decode code 1139 = .ok (.iload_n 3, 1) := by decide +kernel
theorem dL_law_1140 : decode code 1140 = .ok (.iconst 3, 1) := by decide +kernel
theorem dL_law_1141 : decode code 1141 = .ok (.iadd, 1) := by decide +kernel
theorem dL_law_1142 : decode code 1142 = .ok (.iaload, 1) := by decide +kernel
theorem dL_law_1143 : decode code 1143 = .ok (.invokevirtual 158, 3) := by decide +kernel
theorem dL_law_1146 : decode code 1146 = .ok (.aload_n 2, 1) := by decide +kernel
theorem dL_law_1147 : decode code 1147 = .ok (.aload_n 0, 1) := by decide +kernel
theorem dL_law_1148 : decode code 1148 = .ok (.iload_n 3, 1) := by decide +kernel
theorem dL_law_1149 : decode code 1149 = .ok (.iconst 1, 1) := by decide +kernel
theorem dL_law_1150 : decode code 1150 = .ok (.iadd, 1) := by decide +kernel
theorem dL_law_1151 : decode code 1151 = .ok (.iaload, 1) := by decide +kernel
theorem dL_law_1152 : decode code 1152 = .ok (.aload_n 0, 1) := by decide +kernel
theorem dL_law_1153 : decode code 1153 = .ok (.iload_n 3, 1) := by decide +kernel
theorem dL_law_1154 : decode code 1154 = .ok (.iconst 2, 1) := by decide +kernel
theorem dL_law_1155 : decode code 1155 = .ok (.iadd, 1) := by decide +kernel
theorem dL_law_1156 : decode code 1156 = .ok (.iaload, 1) := by decide +kernel
theorem dL_law_1157 : decode code 1157 = .ok (.aload_n 0, 1) := by decide +kernel
theorem dL_law_1158 : decode code 1158 = .ok (.iload_n 3, 1) := by decide +kernel
theorem dL_law_1159 : decode code 1159 = .ok (.iconst 3, 1) := by decide +kernel
theorem dL_law_1160 : decode code 1160 = .ok (.iadd, 1) := by decide +kernel
theorem dL_law_1161 : decode code 1161 = .ok (.iaload, 1) := by decide +kernel
theorem dL_law_1162 : decode code 1162 = .ok (.invokevirtual 162, 3) := by decide +kernel
theorem dL_law_1165 : decode code 1165 = .ok (.if_icmp .eq 226, 3) := by decide +kernel
theorem dL_law_1168 : decode code 1168 = .ok (.iconst 0, 1) := by decide +kernel
theorem dL_law_1169 : decode code 1169 = .ok (.ireturn, 1) := by decide +kernel
theorem dL_law_1170 : decode code 1170 = .ok (.aload_n 1, 1) := by decide +kernel
theorem dL_law_1171 : decode code 1171 = .ok (.aload_n 0, 1) := by decide +kernel
theorem dL_law_1172 : decode code 1172 = .ok (.iload_n 3, 1) := by decide +kernel
theorem dL_law_1173 : decode code 1173 = .ok (.iconst 1, 1) := by decide +kernel
theorem dL_law_1174 : decode code 1174 = .ok (.iadd, 1) := by decide +kernel
theorem dL_law_1175 : decode code 1175 = .ok (.iaload, 1) := by decide +kernel
theorem dL_law_1176 : decode code 1176 = .ok (.invokevirtual 163, 3) := by decide +kernel
theorem dL_law_1179 : decode code 1179 = .ok (.aload_n 2, 1) := by decide +kernel
theorem dL_law_1180 : decode code 1180 = .ok (.aload_n 0, 1) := by decide +kernel
theorem dL_law_1181 : decode code 1181 = .ok (.iload_n 3, 1) := by decide +kernel
theorem dL_law_1182 : decode code 1182 = .ok (.iconst 1, 1) := by decide +kernel
theorem dL_law_1183 : decode code 1183 = .ok (.iadd, 1) := by decide +kernel
theorem dL_law_1184 : decode code 1184 = .ok (.iaload, 1) := by decide +kernel
theorem dL_law_1185 : decode code 1185 = .ok (.invokevirtual 166, 3) := by decide +kernel
theorem dL_law_1188 : decode code 1188 = .ok (.if_icmp .eq 203, 3) := by decide +kernel
theorem dL_law_1191 : decode code 1191 = .ok (.iconst 0, 1) := by decide +kernel
theorem dL_law_1192 : decode code 1192 = .ok (.ireturn, 1) := by decide +kernel
theorem dL_law_1193 : decode code 1193 = .ok (.aload_n 1, 1) := by decide +kernel
theorem dL_law_1194 : decode code 1194 = .ok (.aload_n 0, 1) := by decide +kernel
theorem dL_law_1195 : decode code 1195 = .ok (.iload_n 3, 1) := by decide +kernel
theorem dL_law_1196 : decode code 1196 = .ok (.iconst 1, 1) := by decide +kernel
theorem dL_law_1197 : decode code 1197 = .ok (.iadd, 1) := by decide +kernel
theorem dL_law_1198 : decode code 1198 = .ok (.iaload, 1) := by decide +kernel
theorem dL_law_1199 : decode code 1199 = .ok (.invokevirtual 167, 3) := by decide +kernel
theorem dL_law_1202 : decode code 1202 = .ok (.aload_n 2, 1) := by decide +kernel
theorem dL_law_1203 : decode code 1203 = .ok (.aload_n 0, 1) := by decide +kernel
theorem dL_law_1204 : decode code 1204 = .ok (.iload_n 3, 1) := by decide +kernel
theorem dL_law_1205 : decode code 1205 = .ok (.iconst 1, 1) := by decide +kernel
theorem dL_law_1206 : decode code 1206 = .ok (.iadd, 1) := by decide +kernel
theorem dL_law_1207 : decode code 1207 = .ok (.iaload, 1) := by decide +kernel
theorem dL_law_1208 : decode code 1208 = .ok (.invokevirtual 170, 3) := by decide +kernel
theorem dL_law_1211 : decode code 1211 = .ok (.if_icmp .eq 180, 3) := by decide +kernel
theorem dL_law_1214 : decode code 1214 = .ok (.iconst 0, 1) := by decide +kernel
theorem dL_law_1215 : decode code 1215 = .ok (.ireturn, 1) := by decide +kernel
theorem dL_law_1216 : decode code 1216 = .ok (.aload_n 1, 1) := by decide +kernel
theorem dL_law_1217 : decode code 1217 = .ok (.aload_n 0, 1) := by decide +kernel
theorem dL_law_1218 : decode code 1218 = .ok (.iload_n 3, 1) := by decide +kernel
theorem dL_law_1219 : decode code 1219 = .ok (.iconst 1, 1) := by decide +kernel
theorem dL_law_1220 : decode code 1220 = .ok (.iadd, 1) := by decide +kernel
theorem dL_law_1221 : decode code 1221 = .ok (.iaload, 1) := by decide +kernel
theorem dL_law_1222 : decode code 1222 = .ok (.aload_n 0, 1) := by decide +kernel
theorem dL_law_1223 : decode code 1223 = .ok (.iload_n 3, 1) := by decide +kernel
theorem dL_law_1224 : decode code 1224 = .ok (.iconst 2, 1) := by decide +kernel
theorem dL_law_1225 : decode code 1225 = .ok (.iadd, 1) := by decide +kernel
theorem dL_law_1226 : decode code 1226 = .ok (.iaload, 1) := by decide +kernel
theorem dL_law_1227 : decode code 1227 = .ok (.aload_n 0, 1) := by decide +kernel
theorem dL_law_1228 : decode code 1228 = .ok (.iload_n 3, 1) := by decide +kernel
theorem dL_law_1229 : decode code 1229 = .ok (.iconst 3, 1) := by decide +kernel
theorem dL_law_1230 : decode code 1230 = .ok (.iadd, 1) := by decide +kernel
theorem dL_law_1231 : decode code 1231 = .ok (.iaload, 1) := by decide +kernel
theorem dL_law_1232 : decode code 1232 = .ok (.invokevirtual 171, 3) := by decide +kernel
theorem dL_law_1235 : decode code 1235 = .ok (.aload_n 2, 1) := by decide +kernel
theorem dL_law_1236 : decode code 1236 = .ok (.aload_n 0, 1) := by decide +kernel
theorem dL_law_1237 : decode code 1237 = .ok (.iload_n 3, 1) := by decide +kernel
theorem dL_law_1238 : decode code 1238 = .ok (.iconst 1, 1) := by decide +kernel
theorem dL_law_1239 : decode code 1239 = .ok (.iadd, 1) := by decide +kernel
theorem dL_law_1240 : decode code 1240 = .ok (.iaload, 1) := by decide +kernel
theorem dL_law_1241 : decode code 1241 = .ok (.aload_n 0, 1) := by decide +kernel
theorem dL_law_1242 : decode code 1242 = .ok (.iload_n 3, 1) := by decide +kernel
theorem dL_law_1243 : decode code 1243 = .ok (.iconst 2, 1) := by decide +kernel
theorem dL_law_1244 : decode code 1244 = .ok (.iadd, 1) := by decide +kernel
theorem dL_law_1245 : decode code 1245 = .ok (.iaload, 1) := by decide +kernel
theorem dL_law_1246 : decode code 1246 = .ok (.aload_n 0, 1) := by decide +kernel
theorem dL_law_1247 : decode code 1247 = .ok (.iload_n 3, 1) := by decide +kernel
theorem dL_law_1248 : decode code 1248 = .ok (.iconst 3, 1) := by decide +kernel
theorem dL_law_1249 : decode code 1249 = .ok (.iadd, 1) := by decide +kernel
theorem dL_law_1250 : decode code 1250 = .ok (.iaload, 1) := by decide +kernel
theorem dL_law_1251 : decode code 1251 = .ok (.invokevirtual 174, 3) := by decide +kernel
theorem dL_law_1254 : decode code 1254 = .ok (.if_icmp .eq 137, 3) := by decide +kernel
theorem dL_law_1257 : decode code 1257 = .ok (.iconst 0, 1) := by decide +kernel
theorem dL_law_1258 : decode code 1258 = .ok (.ireturn, 1) := by decide +kernel
theorem dL_law_1259 : decode code 1259 = .ok (.aload_n 1, 1) := by decide +kernel
theorem dL_law_1260 : decode code 1260 = .ok (.aload_n 0, 1) := by decide +kernel
theorem dL_law_1261 : decode code 1261 = .ok (.iload_n 3, 1) := by decide +kernel
theorem dL_law_1262 : decode code 1262 = .ok (.iconst 1, 1) := by decide +kernel
theorem dL_law_1263 : decode code 1263 = .ok (.iadd, 1) := by decide +kernel
theorem dL_law_1264 : decode code 1264 = .ok (.iaload, 1) := by decide +kernel
theorem dL_law_1265 : decode code 1265 = .ok (.aload_n 0, 1) := by decide +kernel
theorem dL_law_1266 : decode code 1266 = .ok (.iload_n 3, 1) := by decide +kernel
theorem dL_law_1267 : decode code 1267 = .ok (.iconst 2, 1) := by decide +kernel
theorem dL_law_1268 : decode code 1268 = .ok (.iadd, 1) := by decide +kernel
theorem dL_law_1269 : decode code 1269 = .ok (.iaload, 1) := by decide +kernel
theorem dL_law_1270 : decode code 1270 = .ok (.aload_n 0, 1) := by decide +kernel
theorem dL_law_1271 : decode code 1271 = .ok (.iload_n 3, 1) := by decide +kernel
theorem dL_law_1272 : decode code 1272 = .ok (.iconst 3, 1) := by decide +kernel
theorem dL_law_1273 : decode code 1273 = .ok (.iadd, 1) := by decide +kernel
theorem dL_law_1274 : decode code 1274 = .ok (.iaload, 1) := by decide +kernel
theorem dL_law_1275 : decode code 1275 = .ok (.invokevirtual 175, 3) := by decide +kernel
theorem dL_law_1278 : decode code 1278 = .ok (.aload_n 2, 1) := by decide +kernel
theorem dL_law_1279 : decode code 1279 = .ok (.aload_n 0, 1) := by decide +kernel
theorem dL_law_1280 : decode code 1280 = .ok (.iload_n 3, 1) := by decide +kernel
theorem dL_law_1281 : decode code 1281 = .ok (.iconst 1, 1) := by decide +kernel
theorem dL_law_1282 : decode code 1282 = .ok (.iadd, 1) := by decide +kernel
theorem dL_law_1283 : decode code 1283 = .ok (.iaload, 1) := by decide +kernel
theorem dL_law_1284 : decode code 1284 = .ok (.aload_n 0, 1) := by decide +kernel
theorem dL_law_1285 : decode code 1285 = .ok (.iload_n 3, 1) := by decide +kernel
theorem dL_law_1286 : decode code 1286 = .ok (.iconst 2, 1) := by decide +kernel
theorem dL_law_1287 : decode code 1287 = .ok (.iadd, 1) := by decide +kernel
theorem dL_law_1288 : decode code 1288 = .ok (.iaload, 1) := by decide +kernel
theorem dL_law_1289 : decode code 1289 = .ok (.aload_n 0, 1) := by decide +kernel
theorem dL_law_1290 : decode code 1290 = .ok (.iload_n 3, 1) := by decide +kernel
theorem dL_law_1291 : decode code 1291 = .ok (.iconst 3, 1) := by decide +kernel
theorem dL_law_1292 : decode code 1292 = .ok (.iadd, 1) := by decide +kernel
theorem dL_law_1293 : decode code 1293 = .ok (.iaload, 1) := by decide +kernel
theorem dL_law_1294 : decode code 1294 = .ok (.invokevirtual 178, 3) := by decide +kernel
theorem dL_law_1297 : decode code 1297 = .ok (.if_icmp .eq 94, 3) := by decide +kernel
theorem dL_law_1300 : decode code 1300 = .ok (.iconst 0, 1) := by decide +kernel
theorem dL_law_1301 : decode code 1301 = .ok (.ireturn, 1) := by decide +kernel
theorem dL_law_1302 : decode code 1302 = .ok (.aload_n 1, 1) := by decide +kernel
theorem dL_law_1303 : decode code 1303 = .ok (.aload_n 0, 1) := by decide +kernel
theorem dL_law_1304 : decode code 1304 = .ok (.iload_n 3, 1) := by decide +kernel
theorem dL_law_1305 : decode code 1305 = .ok (.iconst 1, 1) := by decide +kernel
theorem dL_law_1306 : decode code 1306 = .ok (.iadd, 1) := by decide +kernel
theorem dL_law_1307 : decode code 1307 = .ok (.iaload, 1) := by decide +kernel
theorem dL_law_1308 : decode code 1308 = .ok (.aload_n 0, 1) := by decide +kernel
theorem dL_law_1309 : decode code 1309 = .ok (.iload_n 3, 1) := by decide +kernel
theorem dL_law_1310 : decode code 1310 = .ok (.iconst 2, 1) := by decide +kernel
theorem dL_law_1311 : decode code 1311 = .ok (.iadd, 1) := by decide +kernel
theorem dL_law_1312 : decode code 1312 = .ok (.iaload, 1) := by decide +kernel
theorem dL_law_1313 : decode code 1313 = .ok (.aload_n 0, 1) := by decide +kernel
theorem dL_law_1314 : decode code 1314 = .ok (.iload_n 3, 1) := by decide +kernel
theorem dL_law_1315 : decode code 1315 = .ok (.iconst 3, 1) := by decide +kernel
theorem dL_law_1316 : decode code 1316 = .ok (.iadd, 1) := by decide +kernel
theorem dL_law_1317 : decode code 1317 = .ok (.iaload, 1) := by decide +kernel
theorem dL_law_1318 : decode code 1318 = .ok (.aload_n 0, 1) := by decide +kernel
theorem dL_law_1319 : decode code 1319 = .ok (.iload_n 3, 1) := by decide +kernel
theorem dL_law_1320 : decode code 1320 = .ok (.iconst 4, 1) := by decide +kernel
theorem dL_law_1321 : decode code 1321 = .ok (.iadd, 1) := by decide +kernel
theorem dL_law_1322 : decode code 1322 = .ok (.iaload, 1) := by decide +kernel
theorem dL_law_1323 : decode code 1323 = .ok (.invokevirtual 179, 3) := by decide +kernel
theorem dL_law_1326 : decode code 1326 = .ok (.aload_n 2, 1) := by decide +kernel
theorem dL_law_1327 : decode code 1327 = .ok (.aload_n 0, 1) := by decide +kernel
theorem dL_law_1328 : decode code 1328 = .ok (.iload_n 3, 1) := by decide +kernel
theorem dL_law_1329 : decode code 1329 = .ok (.iconst 1, 1) := by decide +kernel
theorem dL_law_1330 : decode code 1330 = .ok (.iadd, 1) := by decide +kernel
theorem dL_law_1331 : decode code 1331 = .ok (.iaload, 1) := by decide +kernel
theorem dL_law_1332 : decode code 1332 = .ok (.aload_n 0, 1) := by decide +kernel
theorem dL_law_1333 : decode code 1333 = .ok (.iload_n 3, 1) := by decide +kernel
theorem dL_law_1334 : decode code 1334 = .ok (.iconst 2, 1) := by decide +kernel
theorem dL_law_1335 : decode code 1335 = .ok (.iadd, 1) := by decide +kernel
theorem dL_law_1336 : decode code 1336 = .ok (.iaload, 1) := by decide +kernel
theorem dL_law_1337 : decode code 1337 = .ok (.aload_n 0, 1) := by decide +kernel
theorem dL_law_1338 : decode code 1338 = .ok (.iload_n 3, 1) := by decide +kernel
theorem dL_law_1339 : decode code 1339 = .ok (.iconst 3, 1) := by decide +kernel
theorem dL_law_1340 : decode code 1340 = .ok (.iadd, 1) := by decide +kernel
theorem dL_law_1341 : decode code 1341 = .ok (.iaload, 1) := by decide +kernel
theorem dL_law_1342 : decode code 1342 = .ok (.aload_n 0, 1) := by decide +kernel
theorem dL_law_1343 : decode code 1343 = .ok (.iload_n 3, 1) := by decide +kernel
theorem dL_law_1344 : decode code 1344 = .ok (.iconst 4, 1) := by decide +kernel
theorem dL_law_1345 : decode code 1345 = .ok (.iadd, 1) := by decide +kernel
theorem dL_law_1346 : decode code 1346 = .ok (.iaload, 1) := by decide +kernel
theorem dL_law_1347 : decode code 1347 = .ok (.invokevirtual 183, 3) := by decide +kernel
theorem dL_law_1350 : decode code 1350 = .ok (.if_icmp .eq 41, 3) := by decide +kernel
theorem dL_law_1353 : decode code 1353 = .ok (.iconst 0, 1) := by decide +kernel
theorem dL_law_1354 : decode code 1354 = .ok (.ireturn, 1) := by decide +kernel
theorem dL_law_1355 : decode code 1355 = .ok (.aload_n 1, 1) := by decide +kernel
theorem dL_law_1356 : decode code 1356 = .ok (.invokevirtual 184, 3) := by decide +kernel
theorem dL_law_1359 : decode code 1359 = .ok (.aload_n 2, 1) := by decide +kernel
theorem dL_law_1360 : decode code 1360 = .ok (.invokevirtual 187, 3) := by decide +kernel
theorem dL_law_1363 : decode code 1363 = .ok (.if_icmp .eq 28, 3) := by decide +kernel
theorem dL_law_1366 : decode code 1366 = .ok (.iconst 0, 1) := by decide +kernel
theorem dL_law_1367 : decode code 1367 = .ok (.ireturn, 1) := by decide +kernel
theorem dL_law_1368 : decode code 1368 = .ok (.aload_n 1, 1) := by decide +kernel
theorem dL_law_1369 : decode code 1369 = .ok (.aload_n 0, 1) := by decide +kernel
theorem dL_law_1370 : decode code 1370 = .ok (.iload_n 3, 1) := by decide +kernel
theorem dL_law_1371 : decode code 1371 = .ok (.iconst 1, 1) := by decide +kernel
theorem dL_law_1372 : decode code 1372 = .ok (.iadd, 1) := by decide +kernel
theorem dL_law_1373 : decode code 1373 = .ok (.iaload, 1) := by decide +kernel
theorem dL_law_1374 : decode code 1374 = .ok (.invokevirtual 188, 3) := by decide +kernel
theorem dL_law_1377 : decode code 1377 = .ok (.aload_n 2, 1) := by decide +kernel
theorem dL_law_1378 : decode code 1378 = .ok (.aload_n 0, 1) := by decide +kernel
theorem dL_law_1379 : decode code 1379 = .ok (.iload_n 3, 1) := by decide +kernel
theorem dL_law_1380 : decode code 1380 = .ok (.iconst 1, 1) := by decide +kernel
theorem dL_law_1381 : decode code 1381 = .ok (.iadd, 1) := by decide +kernel
theorem dL_law_1382 : decode code 1382 = .ok (.iaload, 1) := by decide +kernel
theorem dL_law_1383 : decode code 1383 = .ok (.invokevirtual 191, 3) := by decide +kernel
theorem dL_law_1386 : decode code 1386 = .ok (.if_icmp .eq 5, 3) := by decide +kernel
theorem dL_law_1389 : decode code 1389 = .ok (.iconst 0, 1) := by decide +kernel
theorem dL_law_1390 : decode code 1390 = .ok (.ireturn, 1) := by decide +kernel
theorem dL_law_1391 : decode code 1391 = .ok (.iinc 3 5, 3) := by decide +kernel
theorem dL_law_1394 : decode code 1394 = .ok (.goto (-1376), 3) := by decide +kernel
theorem dL_law_1397 : decode code 1397 = .ok (.iconst 1, 1) := by decide +kernel
theorem dL_law_1398 : decode code 1398 = .ok (.ireturn, 1) := by decide +kernel
