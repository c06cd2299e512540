/-! THE CLAIM OUT OF ONE WALK OF THE LAW'S BODY. Your part is whole_start (and what it stands on); all else here is the same for every law, but numbers. -/
def R_law : String := "PaperRepeatsLaw"
def lw_P (b : Addr) (xs : List Int32) (args : Array Value) (s : State) : Prop := args = #[.ref b] ∧ s.IntsAt b xs ∧ xs.length ≤ 2048 ∧ (Jvm.Cond.and given_1 narrow_1).before args s = true
def lw_Q (_ : Array Value) (s : State) (o : Outcome) (t : State) : Prop := o = .returned (some (.int 1)) ∧ Framed s o t [] 38 12249
def lw_Z (below : List Frame) (a : Array Value) (s : State) : State → Prop := fun t => ∃ o, t.status = .running ∧ Ended t below o ∧ lw_Q a s o t
/-- the law's own end, with 1 on the stack, nothing written that was there before, its room as the claim has it -/
theorem lw_ret {p : Program} {l : Launch} {e : Env} {s : State} {m : MethodId} {below : List Frame} {meth : Method} {c : Code} {b : Nat} (hx : p.tables.exec = Jvm.exec) (hb : c.code = code) (hr : meth.sig.returnType = ret) (hlocks : meth.locks = false) {pc : Nat} {H : Heap} {ls : Array Slot} (hdg : decode code pc = .ok (.ireturn, 1)) : W p l e room_1 s m #[Value.ref b] below meth c H [] 38 12249 (lw_Z below #[Value.ref b] s) (F0 m pc ls [.int 1]) := by
  intro T hT X
  obtain ⟨fs, hret, hrun, hended, hW, hframe⟩ := X.leave (v := some (.int 1)) (hlocks := hlocks) (fun h => by rw [hr] at h; cases h)
  have hmeth' : T.vm.method? m = some meth := X.method'
  refine ⟨T.setFrames fs, ?_, .returned (some (.int 1)), hrun, hended, rfl, ⟨_, rfl⟩, hW, hframe⟩
  jvm_step X.here [X.here.top, hx, hb, hdg, hmeth', hr, ret, narrow_b1]
  (try refine ⟨rfl, ?_⟩); (try refine ⟨rfl, ?_⟩)
  first | (intro acts; rw [hret _ acts rfl rfl rfl]) | rw [hret _ _ rfl rfl rfl]
  exact Steps.refl _
/-- what holds at the law's entry: the machine, the code, the tables' words (any of lw_tbl by 'hts w (by decide +kernel)'), the script of L ints xs at the cell b, what the Statement gives of the start (any of its parts by flat_of_before) -/
def lw_At (p : Program) (s : State) (m : MethodId) (meth : Method) (c : Code) (b L : Nat) (xs : Nat → Int32) : Prop :=
  p.tables.exec = Jvm.exec ∧ c.code = code ∧ meth.sig.returnType = ret ∧ c.maxLocals = 4 ∧ s.vm.findClass R_law = some m.cls ∧ (∀ w ∈ lw_tbl, w.before #[Value.ref b] s = true) ∧ va_X b L xs s s.heap ∧ b < s.heap.size ∧ meth.locks = false ∧ (Jvm.Cond.and given_1 narrow_1).before #[Value.ref b] s = true
theorem eL_0 : decode code 0 = .ok (.new 7, 3) := by decide +kernel
theorem eL_3 : decode code 3 = .ok (.dup, 1) := by decide +kernel
theorem eL_4 : decode code 4 = .ok (.invokespecial 9, 3) := by decide +kernel
theorem eL_7 : decode code 7 = .ok (.astore_n 1, 1) := by decide +kernel
theorem eL_8 : decode code 8 = .ok (.new 10, 3) := by decide +kernel
theorem eL_11 : decode code 11 = .ok (.dup, 1) := by decide +kernel
theorem eL_12 : decode code 12 = .ok (.invokespecial 12, 3) := by decide +kernel
theorem eL_15 : decode code 15 = .ok (.astore_n 2, 1) := by decide +kernel
theorem eL_16 : decode code 16 = .ok (.iconst 0, 1) := by decide +kernel
theorem eL_17 : decode code 17 = .ok (.istore_n 3, 1) := by decide +kernel
theorem eL_18 : decode code 18 = .ok (.iload_n 3, 1) := by decide +kernel
theorem eL_19 : decode code 19 = .ok (.aload_n 0, 1) := by decide +kernel
theorem eL_20 : decode code 20 = .ok (.arraylength, 1) := by decide +kernel
theorem eL_21 : decode code 21 = .ok (.iconst 4, 1) := by decide +kernel
theorem eL_22 : decode code 22 = .ok (.isub, 1) := by decide +kernel
theorem eL_23 : decode code 23 = .ok (.if_icmp .gt 1068, 3) := by decide +kernel
theorem eL_26 : decode code 26 = .ok (.aload_n 0, 1) := by decide +kernel
theorem eL_27 : decode code 27 = .ok (.iload_n 3, 1) := by decide +kernel
theorem eL_28 : decode code 28 = .ok (.iaload, 1) := by decide +kernel
theorem eL_29 : decode code 29 = .ok (.bipush 63, 2) := by decide +kernel
theorem eL_31 : decode code 31 = .ok (.iand, 1) := by decide +kernel
theorem eL_32 : decode code 32 = .ok (.tableswitch 1053 0 38 #[172, 205, 228, 261, 304, 327, 340, 373, 406, 429, 452, 475, 498, 521, 544, 557, 580, 603, 616, 629, 662, 695, 718, 731, 754, 767, 780, 793, 816, 855, 878, 891, 905, 919, 932, 955, 968, 1007, 1030], 172) := by decide +kernel
theorem eL_204 : decode code 204 = .ok (.aload_n 1, 1) := by decide +kernel
theorem eL_205 : decode code 205 = .ok (.aload_n 0, 1) := by decide +kernel
theorem eL_206 : decode code 206 = .ok (.iload_n 3, 1) := by decide +kernel
theorem eL_207 : decode code 207 = .ok (.iconst 1, 1) := by decide +kernel
theorem eL_208 : decode code 208 = .ok (.iadd, 1) := by decide +kernel
theorem eL_209 : decode code 209 = .ok (.iaload, 1) := by decide +kernel
theorem eL_210 : decode code 210 = .ok (.aload_n 0, 1) := by decide +kernel
theorem eL_211 : decode code 211 = .ok (.iload_n 3, 1) := by decide +kernel
theorem eL_212 : decode code 212 = .ok (.iconst 2, 1) := by decide +kernel
theorem eL_213 : decode code 213 = .ok (.iadd, 1) := by decide +kernel
theorem eL_214 : decode code 214 = .ok (.iaload, 1) := by decide +kernel
theorem eL_215 : decode code 215 = .ok (.invokevirtual 13, 3) := by decide +kernel
theorem eL_218 : decode code 218 = .ok (.aload_n 2, 1) := by decide +kernel
theorem eL_219 : decode code 219 = .ok (.aload_n 0, 1) := by decide +kernel
theorem eL_220 : decode code 220 = .ok (.iload_n 3, 1) := by decide +kernel
theorem eL_221 : decode code 221 = .ok (.iconst 1, 1) := by decide +kernel
theorem eL_222 : decode code 222 = .ok (.iadd, 1) := by decide +kernel
theorem eL_223 : decode code 223 = .ok (.iaload, 1) := by decide +kernel
theorem eL_224 : decode code 224 = .ok (.aload_n 0, 1) := by decide +kernel
theorem eL_225 : decode code 225 = .ok (.iload_n 3, 1) := by decide +kernel
theorem eL_226 : decode code 226 = .ok (.iconst 2, 1) := by decide +kernel
theorem eL_227 : decode code 227 = .ok (.iadd, 1) := by decide +kernel
theorem eL_228 : decode code 228 = .ok (.iaload, 1) := by decide +kernel
theorem eL_229 : decode code 229 = .ok (.invokevirtual 17, 3) := by decide +kernel
theorem eL_232 : decode code 232 = .ok (.if_icmp .eq 853, 3) := by decide +kernel
theorem eL_235 : decode code 235 = .ok (.iconst 0, 1) := by decide +kernel
theorem eL_236 : decode code 236 = .ok (.ireturn, 1) := by decide +kernel
theorem eL_237 : decode code 237 = .ok (.aload_n 1, 1) := by decide +kernel
theorem eL_238 : decode code 238 = .ok (.aload_n 0, 1) := by decide +kernel
theorem eL_239 : decode code 239 = .ok (.iload_n 3, 1) := by decide +kernel
theorem eL_240 : decode code 240 = .ok (.iconst 1, 1) := by decide +kernel
theorem eL_241 : decode code 241 = .ok (.iadd, 1) := by decide +kernel
theorem eL_242 : decode code 242 = .ok (.iaload, 1) := by decide +kernel
theorem eL_243 : decode code 243 = .ok (.invokevirtual 18, 3) := by decide +kernel
theorem eL_246 : decode code 246 = .ok (.aload_n 2, 1) := by decide +kernel
theorem eL_247 : decode code 247 = .ok (.aload_n 0, 1) := by decide +kernel
theorem eL_248 : decode code 248 = .ok (.iload_n 3, 1) := by decide +kernel
theorem eL_249 : decode code 249 = .ok (.iconst 1, 1) := by decide +kernel
theorem eL_250 : decode code 250 = .ok (.iadd, 1) := by decide +kernel
theorem eL_251 : decode code 251 = .ok (.iaload, 1) := by decide +kernel
theorem eL_252 : decode code 252 = .ok (.invokevirtual 22, 3) := by decide +kernel
theorem eL_255 : decode code 255 = .ok (.if_icmp .eq 830, 3) := by decide +kernel
theorem eL_258 : decode code 258 = .ok (.iconst 0, 1) := by decide +kernel
theorem eL_259 : decode code 259 = .ok (.ireturn, 1) := by decide +kernel
theorem eL_260 : decode code 260 = .ok (.aload_n 1, 1) := by decide +kernel
theorem eL_261 : decode code 261 = .ok (.aload_n 0, 1) := by decide +kernel
theorem eL_262 : decode code 262 = .ok (.iload_n 3, 1) := by decide +kernel
theorem eL_263 : decode code 263 = .ok (.iconst 1, 1) := by decide +kernel
theorem eL_264 : decode code 264 = .ok (.iadd, 1) := by decide +kernel
theorem eL_265 : decode code 265 = .ok (.iaload, 1) := by decide +kernel
theorem eL_266 : decode code 266 = .ok (.aload_n 0, 1) := by decide +kernel
theorem eL_267 : decode code 267 = .ok (.iload_n 3, 1) := by decide +kernel
theorem eL_268 : decode code 268 = .ok (.iconst 2, 1) := by decide +kernel
theorem eL_269 : decode code 269 = .ok (.iadd, 1) := by decide +kernel
theorem eL_270 : decode code 270 = .ok (.iaload, 1) := by decide +kernel
theorem eL_271 : decode code 271 = .ok (.invokevirtual 23, 3) := by decide +kernel
theorem eL_274 : decode code 274 = .ok (.aload_n 2, 1) := by decide +kernel
theorem eL_275 : decode code 275 = .ok (.aload_n 0, 1) := by decide +kernel
theorem eL_276 : decode code 276 = .ok (.iload_n 3, 1) := by decide +kernel
theorem eL_277 : decode code 277 = .ok (.iconst 1, 1) := by decide +kernel
theorem eL_278 : decode code 278 = .ok (.iadd, 1) := by decide +kernel
theorem eL_279 : decode code 279 = .ok (.iaload, 1) := by decide +kernel
theorem eL_280 : decode code 280 = .ok (.aload_n 0, 1) := by decide +kernel
theorem eL_281 : decode code 281 = .ok (.iload_n 3, 1) := by decide +kernel
theorem eL_282 : decode code 282 = .ok (.iconst 2, 1) := by decide +kernel
theorem eL_283 : decode code 283 = .ok (.iadd, 1) := by decide +kernel
theorem eL_284 : decode code 284 = .ok (.iaload, 1) := by decide +kernel
theorem eL_285 : decode code 285 = .ok (.invokevirtual 26, 3) := by decide +kernel
theorem eL_288 : decode code 288 = .ok (.if_icmp .eq 797, 3) := by decide +kernel
theorem eL_291 : decode code 291 = .ok (.iconst 0, 1) := by decide +kernel
theorem eL_292 : decode code 292 = .ok (.ireturn, 1) := by decide +kernel
theorem eL_293 : decode code 293 = .ok (.aload_n 1, 1) := by decide +kernel
theorem eL_294 : decode code 294 = .ok (.aload_n 0, 1) := by decide +kernel
theorem eL_295 : decode code 295 = .ok (.iload_n 3, 1) := by decide +kernel
theorem eL_296 : decode code 296 = .ok (.iconst 1, 1) := by decide +kernel
theorem eL_297 : decode code 297 = .ok (.iadd, 1) := by decide +kernel
theorem eL_298 : decode code 298 = .ok (.iaload, 1) := by decide +kernel
theorem eL_299 : decode code 299 = .ok (.aload_n 0, 1) := by decide +kernel
theorem eL_300 : decode code 300 = .ok (.iload_n 3, 1) := by decide +kernel
theorem eL_301 : decode code 301 = .ok (.iconst 2, 1) := by decide +kernel
theorem eL_302 : decode code 302 = .ok (.iadd, 1) := by decide +kernel
theorem eL_303 : decode code 303 = .ok (.iaload, 1) := by decide +kernel
theorem eL_304 : decode code 304 = .ok (.aload_n 0, 1) := by decide +kernel
theorem eL_305 : decode code 305 = .ok (.iload_n 3, 1) := by decide +kernel
theorem eL_306 : decode code 306 = .ok (.iconst 3, 1) := by decide +kernel
theorem eL_307 : decode code 307 = .ok (.iadd, 1) := by decide +kernel
theorem eL_308 : decode code 308 = .ok (.iaload, 1) := by decide +kernel
theorem eL_309 : decode code 309 = .ok (.invokevirtual 27, 3) := by decide +kernel
theorem eL_312 : decode code 312 = .ok (.aload_n 2, 1) := by decide +kernel
theorem eL_313 : decode code 313 = .ok (.aload_n 0, 1) := by decide +kernel
theorem eL_314 : decode code 314 = .ok (.iload_n 3, 1) := by decide +kernel
theorem eL_315 : decode code 315 = .ok (.iconst 1, 1) := by decide +kernel
theorem eL_316 : decode code 316 = .ok (.iadd, 1) := by decide +kernel
theorem eL_317 : decode code 317 = .ok (.iaload, 1) := by decide +kernel
theorem eL_318 : decode code 318 = .ok (.aload_n 0, 1) := by decide +kernel
theorem eL_319 : decode code 319 = .ok (.iload_n 3, 1) := by decide +kernel
theorem eL_320 : decode code 320 = .ok (.iconst 2, 1) := by decide +kernel
theorem eL_321 : decode code 321 = .ok (.iadd, 1) := by decide +kernel
theorem eL_322 : decode code 322 = .ok (.iaload, 1) := by decide +kernel
theorem eL_323 : decode code 323 = .ok (.aload_n 0, 1) := by decide +kernel
theorem eL_324 : decode code 324 = .ok (.iload_n 3, 1) := by decide +kernel
theorem eL_325 : decode code 325 = .ok (.iconst 3, 1) := by decide +kernel
theorem eL_326 : decode code 326 = .ok (.iadd, 1) := by decide +kernel
theorem eL_327 : decode code 327 = .ok (.iaload, 1) := by decide +kernel
theorem eL_328 : decode code 328 = .ok (.invokevirtual 31, 3) := by decide +kernel
theorem eL_331 : decode code 331 = .ok (.if_icmp .eq 754, 3) := by decide +kernel
theorem eL_334 : decode code 334 = .ok (.iconst 0, 1) := by decide +kernel
theorem eL_335 : decode code 335 = .ok (.ireturn, 1) := by decide +kernel
theorem eL_336 : decode code 336 = .ok (.aload_n 1, 1) := by decide +kernel
theorem eL_337 : decode code 337 = .ok (.aload_n 0, 1) := by decide +kernel
theorem eL_338 : decode code 338 = .ok (.iload_n 3, 1) := by decide +kernel
theorem eL_339 : decode code 339 = .ok (.iconst 1, 1) := by decide +kernel
theorem eL_340 : decode code 340 = .ok (.iadd, 1) := by decide +kernel
theorem eL_341 : decode code 341 = .ok (.iaload, 1) := by decide +kernel
theorem eL_342 : decode code 342 = .ok (.invokevirtual 32, 3) := by decide +kernel
theorem eL_345 : decode code 345 = .ok (.aload_n 2, 1) := by decide +kernel
theorem eL_346 : decode code 346 = .ok (.aload_n 0, 1) := by decide +kernel
theorem eL_347 : decode code 347 = .ok (.iload_n 3, 1) := by decide +kernel
theorem eL_348 : decode code 348 = .ok (.iconst 1, 1) := by decide +kernel
theorem eL_349 : decode code 349 = .ok (.iadd, 1) := by decide +kernel
theorem eL_350 : decode code 350 = .ok (.iaload, 1) := by decide +kernel
theorem eL_351 : decode code 351 = .ok (.invokevirtual 35, 3) := by decide +kernel
theorem eL_354 : decode code 354 = .ok (.if_icmp .eq 731, 3) := by decide +kernel
theorem eL_357 : decode code 357 = .ok (.iconst 0, 1) := by decide +kernel
theorem eL_358 : decode code 358 = .ok (.ireturn, 1) := by decide +kernel
theorem eL_359 : decode code 359 = .ok (.aload_n 1, 1) := by decide +kernel
theorem eL_360 : decode code 360 = .ok (.invokevirtual 36, 3) := by decide +kernel
theorem eL_363 : decode code 363 = .ok (.aload_n 2, 1) := by decide +kernel
theorem eL_364 : decode code 364 = .ok (.invokevirtual 40, 3) := by decide +kernel
theorem eL_367 : decode code 367 = .ok (.if_icmp .eq 718, 3) := by decide +kernel
theorem eL_370 : decode code 370 = .ok (.iconst 0, 1) := by decide +kernel
theorem eL_371 : decode code 371 = .ok (.ireturn, 1) := by decide +kernel
theorem eL_372 : decode code 372 = .ok (.aload_n 1, 1) := by decide +kernel
theorem eL_373 : decode code 373 = .ok (.aload_n 0, 1) := by decide +kernel
theorem eL_374 : decode code 374 = .ok (.iload_n 3, 1) := by decide +kernel
theorem eL_375 : decode code 375 = .ok (.iconst 1, 1) := by decide +kernel
theorem eL_376 : decode code 376 = .ok (.iadd, 1) := by decide +kernel
theorem eL_377 : decode code 377 = .ok (.iaload, 1) := by decide +kernel
theorem eL_378 : decode code 378 = .ok (.aload_n 0, 1) := by decide +kernel
theorem eL_379 : decode code 379 = .ok (.iload_n 3, 1) := by decide +kernel
theorem eL_380 : decode code 380 = .ok (.iconst 2, 1) := by decide +kernel
theorem eL_381 : decode code 381 = .ok (.iadd, 1) := by decide +kernel
theorem eL_382 : decode code 382 = .ok (.iaload, 1) := by decide +kernel
theorem eL_383 : decode code 383 = .ok (.invokevirtual 41, 3) := by decide +kernel
theorem eL_386 : decode code 386 = .ok (.aload_n 2, 1) := by decide +kernel
theorem eL_387 : decode code 387 = .ok (.aload_n 0, 1) := by decide +kernel
theorem eL_388 : decode code 388 = .ok (.iload_n 3, 1) := by decide +kernel
theorem eL_389 : decode code 389 = .ok (.iconst 1, 1) := by decide +kernel
theorem eL_390 : decode code 390 = .ok (.iadd, 1) := by decide +kernel
theorem eL_391 : decode code 391 = .ok (.iaload, 1) := by decide +kernel
theorem eL_392 : decode code 392 = .ok (.aload_n 0, 1) := by decide +kernel
theorem eL_393 : decode code 393 = .ok (.iload_n 3, 1) := by decide +kernel
theorem eL_394 : decode code 394 = .ok (.iconst 2, 1) := by decide +kernel
theorem eL_395 : decode code 395 = .ok (.iadd, 1) := by decide +kernel
theorem eL_396 : decode code 396 = .ok (.iaload, 1) := by decide +kernel
theorem eL_397 : decode code 397 = .ok (.invokevirtual 44, 3) := by decide +kernel
theorem eL_400 : decode code 400 = .ok (.if_icmp .eq 685, 3) := by decide +kernel
theorem eL_403 : decode code 403 = .ok (.iconst 0, 1) := by decide +kernel
theorem eL_404 : decode code 404 = .ok (.ireturn, 1) := by decide +kernel
theorem eL_405 : decode code 405 = .ok (.aload_n 1, 1) := by decide +kernel
theorem eL_406 : decode code 406 = .ok (.aload_n 0, 1) := by decide +kernel
theorem eL_407 : decode code 407 = .ok (.iload_n 3, 1) := by decide +kernel
theorem eL_408 : decode code 408 = .ok (.iconst 1, 1) := by decide +kernel
theorem eL_409 : decode code 409 = .ok (.iadd, 1) := by decide +kernel
theorem eL_410 : decode code 410 = .ok (.iaload, 1) := by decide +kernel
theorem eL_411 : decode code 411 = .ok (.aload_n 0, 1) := by decide +kernel
theorem eL_412 : decode code 412 = .ok (.iload_n 3, 1) := by decide +kernel
theorem eL_413 : decode code 413 = .ok (.iconst 2, 1) := by decide +kernel
theorem eL_414 : decode code 414 = .ok (.iadd, 1) := by decide +kernel
theorem eL_415 : decode code 415 = .ok (.iaload, 1) := by decide +kernel
theorem eL_416 : decode code 416 = .ok (.invokevirtual 45, 3) := by decide +kernel
theorem eL_419 : decode code 419 = .ok (.aload_n 2, 1) := by decide +kernel
theorem eL_420 : decode code 420 = .ok (.aload_n 0, 1) := by decide +kernel
theorem eL_421 : decode code 421 = .ok (.iload_n 3, 1) := by decide +kernel
theorem eL_422 : decode code 422 = .ok (.iconst 1, 1) := by decide +kernel
theorem eL_423 : decode code 423 = .ok (.iadd, 1) := by decide +kernel
theorem eL_424 : decode code 424 = .ok (.iaload, 1) := by decide +kernel
theorem eL_425 : decode code 425 = .ok (.aload_n 0, 1) := by decide +kernel
theorem eL_426 : decode code 426 = .ok (.iload_n 3, 1) := by decide +kernel
theorem eL_427 : decode code 427 = .ok (.iconst 2, 1) := by decide +kernel
theorem eL_428 : decode code 428 = .ok (.iadd, 1) := by decide +kernel
theorem eL_429 : decode code 429 = .ok (.iaload, 1) := by decide +kernel
theorem eL_430 : decode code 430 = .ok (.invokevirtual 48, 3) := by decide +kernel
theorem eL_433 : decode code 433 = .ok (.if_icmp .eq 652, 3) := by decide +kernel
theorem eL_436 : decode code 436 = .ok (.iconst 0, 1) := by decide +kernel
theorem eL_437 : decode code 437 = .ok (.ireturn, 1) := by decide +kernel
theorem eL_438 : decode code 438 = .ok (.aload_n 1, 1) := by decide +kernel
theorem eL_439 : decode code 439 = .ok (.aload_n 0, 1) := by decide +kernel
theorem eL_440 : decode code 440 = .ok (.iload_n 3, 1) := by decide +kernel
theorem eL_441 : decode code 441 = .ok (.iconst 1, 1) := by decide +kernel
theorem eL_442 : decode code 442 = .ok (.iadd, 1) := by decide +kernel
theorem eL_443 : decode code 443 = .ok (.iaload, 1) := by decide +kernel
theorem eL_444 : decode code 444 = .ok (.invokevirtual 49, 3) := by decide +kernel
theorem eL_447 : decode code 447 = .ok (.aload_n 2, 1) := by decide +kernel
theorem eL_448 : decode code 448 = .ok (.aload_n 0, 1) := by decide +kernel
theorem eL_449 : decode code 449 = .ok (.iload_n 3, 1) := by decide +kernel
theorem eL_450 : decode code 450 = .ok (.iconst 1, 1) := by decide +kernel
theorem eL_451 : decode code 451 = .ok (.iadd, 1) := by decide +kernel
theorem eL_452 : decode code 452 = .ok (.iaload, 1) := by decide +kernel
theorem eL_453 : decode code 453 = .ok (.invokevirtual 52, 3) := by decide +kernel
theorem eL_456 : decode code 456 = .ok (.if_icmp .eq 629, 3) := by decide +kernel
theorem eL_459 : decode code 459 = .ok (.iconst 0, 1) := by decide +kernel
theorem eL_460 : decode code 460 = .ok (.ireturn, 1) := by decide +kernel
theorem eL_461 : decode code 461 = .ok (.aload_n 1, 1) := by decide +kernel
theorem eL_462 : decode code 462 = .ok (.aload_n 0, 1) := by decide +kernel
theorem eL_463 : decode code 463 = .ok (.iload_n 3, 1) := by decide +kernel
theorem eL_464 : decode code 464 = .ok (.iconst 1, 1) := by decide +kernel
theorem eL_465 : decode code 465 = .ok (.iadd, 1) := by decide +kernel
theorem eL_466 : decode code 466 = .ok (.iaload, 1) := by decide +kernel
theorem eL_467 : decode code 467 = .ok (.invokevirtual 53, 3) := by decide +kernel
theorem eL_470 : decode code 470 = .ok (.aload_n 2, 1) := by decide +kernel
theorem eL_471 : decode code 471 = .ok (.aload_n 0, 1) := by decide +kernel
theorem eL_472 : decode code 472 = .ok (.iload_n 3, 1) := by decide +kernel
theorem eL_473 : decode code 473 = .ok (.iconst 1, 1) := by decide +kernel
theorem eL_474 : decode code 474 = .ok (.iadd, 1) := by decide +kernel
theorem eL_475 : decode code 475 = .ok (.iaload, 1) := by decide +kernel
theorem eL_476 : decode code 476 = .ok (.invokevirtual 56, 3) := by decide +kernel
theorem eL_479 : decode code 479 = .ok (.if_icmp .eq 606, 3) := by decide +kernel
theorem eL_482 : decode code 482 = .ok (.iconst 0, 1) := by decide +kernel
theorem eL_483 : decode code 483 = .ok (.ireturn, 1) := by decide +kernel
theorem eL_484 : decode code 484 = .ok (.aload_n 1, 1) := by decide +kernel
theorem eL_485 : decode code 485 = .ok (.aload_n 0, 1) := by decide +kernel
theorem eL_486 : decode code 486 = .ok (.iload_n 3, 1) := by decide +kernel
theorem eL_487 : decode code 487 = .ok (.iconst 1, 1) := by decide +kernel
theorem eL_488 : decode code 488 = .ok (.iadd, 1) := by decide +kernel
theorem eL_489 : decode code 489 = .ok (.iaload, 1) := by decide +kernel
theorem eL_490 : decode code 490 = .ok (.invokevirtual 57, 3) := by decide +kernel
theorem eL_493 : decode code 493 = .ok (.aload_n 2, 1) := by decide +kernel
theorem eL_494 : decode code 494 = .ok (.aload_n 0, 1) := by decide +kernel
theorem eL_495 : decode code 495 = .ok (.iload_n 3, 1) := by decide +kernel
theorem eL_496 : decode code 496 = .ok (.iconst 1, 1) := by decide +kernel
theorem eL_497 : decode code 497 = .ok (.iadd, 1) := by decide +kernel
theorem eL_498 : decode code 498 = .ok (.iaload, 1) := by decide +kernel
theorem eL_499 : decode code 499 = .ok (.invokevirtual 60, 3) := by decide +kernel
theorem eL_502 : decode code 502 = .ok (.if_icmp .eq 583, 3) := by decide +kernel
theorem eL_505 : decode code 505 = .ok (.iconst 0, 1) := by decide +kernel
theorem eL_506 : decode code 506 = .ok (.ireturn, 1) := by decide +kernel
theorem eL_507 : decode code 507 = .ok (.aload_n 1, 1) := by decide +kernel
theorem eL_508 : decode code 508 = .ok (.aload_n 0, 1) := by decide +kernel
theorem eL_509 : decode code 509 = .ok (.iload_n 3, 1) := by decide +kernel
theorem eL_510 : decode code 510 = .ok (.iconst 1, 1) := by decide +kernel
theorem eL_511 : decode code 511 = .ok (.iadd, 1) := by decide +kernel
theorem eL_512 : decode code 512 = .ok (.iaload, 1) := by decide +kernel
theorem eL_513 : decode code 513 = .ok (.invokevirtual 61, 3) := by decide +kernel
theorem eL_516 : decode code 516 = .ok (.aload_n 2, 1) := by decide +kernel
theorem eL_517 : decode code 517 = .ok (.aload_n 0, 1) := by decide +kernel
theorem eL_518 : decode code 518 = .ok (.iload_n 3, 1) := by decide +kernel
theorem eL_519 : decode code 519 = .ok (.iconst 1, 1) := by decide +kernel
theorem eL_520 : decode code 520 = .ok (.iadd, 1) := by decide +kernel
theorem eL_521 : decode code 521 = .ok (.iaload, 1) := by decide +kernel
theorem eL_522 : decode code 522 = .ok (.invokevirtual 64, 3) := by decide +kernel
theorem eL_525 : decode code 525 = .ok (.if_icmp .eq 560, 3) := by decide +kernel
theorem eL_528 : decode code 528 = .ok (.iconst 0, 1) := by decide +kernel
theorem eL_529 : decode code 529 = .ok (.ireturn, 1) := by decide +kernel
theorem eL_530 : decode code 530 = .ok (.aload_n 1, 1) := by decide +kernel
theorem eL_531 : decode code 531 = .ok (.aload_n 0, 1) := by decide +kernel
theorem eL_532 : decode code 532 = .ok (.iload_n 3, 1) := by decide +kernel
theorem eL_533 : decode code 533 = .ok (.iconst 1, 1) := by decide +kernel
theorem eL_534 : decode code 534 = .ok (.iadd, 1) := by decide +kernel
theorem eL_535 : decode code 535 = .ok (.iaload, 1) := by decide +kernel
theorem eL_536 : decode code 536 = .ok (.invokevirtual 65, 3) := by decide +kernel
theorem eL_539 : decode code 539 = .ok (.aload_n 2, 1) := by decide +kernel
theorem eL_540 : decode code 540 = .ok (.aload_n 0, 1) := by decide +kernel
theorem eL_541 : decode code 541 = .ok (.iload_n 3, 1) := by decide +kernel
theorem eL_542 : decode code 542 = .ok (.iconst 1, 1) := by decide +kernel
theorem eL_543 : decode code 543 = .ok (.iadd, 1) := by decide +kernel
theorem eL_544 : decode code 544 = .ok (.iaload, 1) := by decide +kernel
theorem eL_545 : decode code 545 = .ok (.invokevirtual 68, 3) := by decide +kernel
theorem eL_548 : decode code 548 = .ok (.if_icmp .eq 537, 3) := by decide +kernel
theorem eL_551 : decode code 551 = .ok (.iconst 0, 1) := by decide +kernel
theorem eL_552 : decode code 552 = .ok (.ireturn, 1) := by decide +kernel
theorem eL_553 : decode code 553 = .ok (.aload_n 1, 1) := by decide +kernel
theorem eL_554 : decode code 554 = .ok (.aload_n 0, 1) := by decide +kernel
theorem eL_555 : decode code 555 = .ok (.iload_n 3, 1) := by decide +kernel
theorem eL_556 : decode code 556 = .ok (.iconst 1, 1) := by decide +kernel
theorem eL_557 : decode code 557 = .ok (.iadd, 1) := by decide +kernel
theorem eL_558 : decode code 558 = .ok (.iaload, 1) := by decide +kernel
theorem eL_559 : decode code 559 = .ok (.invokevirtual 69, 3) := by decide +kernel
theorem eL_562 : decode code 562 = .ok (.aload_n 2, 1) := by decide +kernel
theorem eL_563 : decode code 563 = .ok (.aload_n 0, 1) := by decide +kernel
theorem eL_564 : decode code 564 = .ok (.iload_n 3, 1) := by decide +kernel
theorem eL_565 : decode code 565 = .ok (.iconst 1, 1) := by decide +kernel
theorem eL_566 : decode code 566 = .ok (.iadd, 1) := by decide +kernel
theorem eL_567 : decode code 567 = .ok (.iaload, 1) := by decide +kernel
theorem eL_568 : decode code 568 = .ok (.invokevirtual 72, 3) := by decide +kernel
theorem eL_571 : decode code 571 = .ok (.if_icmp .eq 514, 3) := by decide +kernel
theorem eL_574 : decode code 574 = .ok (.iconst 0, 1) := by decide +kernel
theorem eL_575 : decode code 575 = .ok (.ireturn, 1) := by decide +kernel
theorem eL_576 : decode code 576 = .ok (.aload_n 1, 1) := by decide +kernel
theorem eL_577 : decode code 577 = .ok (.invokevirtual 73, 3) := by decide +kernel
theorem eL_580 : decode code 580 = .ok (.aload_n 2, 1) := by decide +kernel
theorem eL_581 : decode code 581 = .ok (.invokevirtual 76, 3) := by decide +kernel
theorem eL_584 : decode code 584 = .ok (.if_icmp .eq 501, 3) := by decide +kernel
theorem eL_587 : decode code 587 = .ok (.iconst 0, 1) := by decide +kernel
theorem eL_588 : decode code 588 = .ok (.ireturn, 1) := by decide +kernel
theorem eL_589 : decode code 589 = .ok (.aload_n 1, 1) := by decide +kernel
theorem eL_590 : decode code 590 = .ok (.aload_n 0, 1) := by decide +kernel
theorem eL_591 : decode code 591 = .ok (.iload_n 3, 1) := by decide +kernel
theorem eL_592 : decode code 592 = .ok (.iconst 1, 1) := by decide +kernel
theorem eL_593 : decode code 593 = .ok (.iadd, 1) := by decide +kernel
theorem eL_594 : decode code 594 = .ok (.iaload, 1) := by decide +kernel
theorem eL_595 : decode code 595 = .ok (.invokevirtual 77, 3) := by decide +kernel
theorem eL_598 : decode code 598 = .ok (.aload_n 2, 1) := by decide +kernel
theorem eL_599 : decode code 599 = .ok (.aload_n 0, 1) := by decide +kernel
theorem eL_600 : decode code 600 = .ok (.iload_n 3, 1) := by decide +kernel
theorem eL_601 : decode code 601 = .ok (.iconst 1, 1) := by decide +kernel
theorem eL_602 : decode code 602 = .ok (.iadd, 1) := by decide +kernel
theorem eL_603 : decode code 603 = .ok (.iaload, 1) := by decide +kernel
theorem eL_604 : decode code 604 = .ok (.invokevirtual 80, 3) := by decide +kernel
theorem eL_607 : decode code 607 = .ok (.if_icmp .eq 478, 3) := by decide +kernel
theorem eL_610 : decode code 610 = .ok (.iconst 0, 1) := by decide +kernel
theorem eL_611 : decode code 611 = .ok (.ireturn, 1) := by decide +kernel
theorem eL_612 : decode code 612 = .ok (.aload_n 1, 1) := by decide +kernel
theorem eL_613 : decode code 613 = .ok (.aload_n 0, 1) := by decide +kernel
theorem eL_614 : decode code 614 = .ok (.iload_n 3, 1) := by decide +kernel
theorem eL_615 : decode code 615 = .ok (.iconst 1, 1) := by decide +kernel
theorem eL_616 : decode code 616 = .ok (.iadd, 1) := by decide +kernel
theorem eL_617 : decode code 617 = .ok (.iaload, 1) := by decide +kernel
theorem eL_618 : decode code 618 = .ok (.invokevirtual 81, 3) := by decide +kernel
theorem eL_621 : decode code 621 = .ok (.aload_n 2, 1) := by decide +kernel
theorem eL_622 : decode code 622 = .ok (.aload_n 0, 1) := by decide +kernel
theorem eL_623 : decode code 623 = .ok (.iload_n 3, 1) := by decide +kernel
theorem eL_624 : decode code 624 = .ok (.iconst 1, 1) := by decide +kernel
theorem eL_625 : decode code 625 = .ok (.iadd, 1) := by decide +kernel
theorem eL_626 : decode code 626 = .ok (.iaload, 1) := by decide +kernel
theorem eL_627 : decode code 627 = .ok (.invokevirtual 84, 3) := by decide +kernel
theorem eL_630 : decode code 630 = .ok (.if_icmp .eq 455, 3) := by decide +kernel
theorem eL_633 : decode code 633 = .ok (.iconst 0, 1) := by decide +kernel
theorem eL_634 : decode code 634 = .ok (.ireturn, 1) := by decide +kernel
theorem eL_635 : decode code 635 = .ok (.aload_n 1, 1) := by decide +kernel
theorem eL_636 : decode code 636 = .ok (.invokevirtual 85, 3) := by decide +kernel
theorem eL_639 : decode code 639 = .ok (.aload_n 2, 1) := by decide +kernel
theorem eL_640 : decode code 640 = .ok (.invokevirtual 88, 3) := by decide +kernel
theorem eL_643 : decode code 643 = .ok (.if_icmp .eq 442, 3) := by decide +kernel
theorem eL_646 : decode code 646 = .ok (.iconst 0, 1) := by decide +kernel
theorem eL_647 : decode code 647 = .ok (.ireturn, 1) := by decide +kernel
theorem eL_648 : decode code 648 = .ok (.aload_n 1, 1) := by decide +kernel
theorem eL_649 : decode code 649 = .ok (.invokevirtual 89, 3) := by decide +kernel
theorem eL_652 : decode code 652 = .ok (.aload_n 2, 1) := by decide +kernel
theorem eL_653 : decode code 653 = .ok (.invokevirtual 92, 3) := by decide +kernel
theorem eL_656 : decode code 656 = .ok (.if_icmp .eq 429, 3) := by decide +kernel
theorem eL_659 : decode code 659 = .ok (.iconst 0, 1) := by decide +kernel
theorem eL_660 : decode code 660 = .ok (.ireturn, 1) := by decide +kernel
theorem eL_661 : decode code 661 = .ok (.aload_n 1, 1) := by decide +kernel
theorem eL_662 : decode code 662 = .ok (.aload_n 0, 1) := by decide +kernel
theorem eL_663 : decode code 663 = .ok (.iload_n 3, 1) := by decide +kernel
theorem eL_664 : decode code 664 = .ok (.iconst 1, 1) := by decide +kernel
theorem eL_665 : decode code 665 = .ok (.iadd, 1) := by decide +kernel
theorem eL_666 : decode code 666 = .ok (.iaload, 1) := by decide +kernel
theorem eL_667 : decode code 667 = .ok (.aload_n 0, 1) := by decide +kernel
theorem eL_668 : decode code 668 = .ok (.iload_n 3, 1) := by decide +kernel
theorem eL_669 : decode code 669 = .ok (.iconst 2, 1) := by decide +kernel
theorem eL_670 : decode code 670 = .ok (.iadd, 1) := by decide +kernel
theorem eL_671 : decode code 671 = .ok (.iaload, 1) := by decide +kernel
theorem eL_672 : decode code 672 = .ok (.invokevirtual 93, 3) := by decide +kernel
theorem eL_675 : decode code 675 = .ok (.aload_n 2, 1) := by decide +kernel
theorem eL_676 : decode code 676 = .ok (.aload_n 0, 1) := by decide +kernel
theorem eL_677 : decode code 677 = .ok (.iload_n 3, 1) := by decide +kernel
theorem eL_678 : decode code 678 = .ok (.iconst 1, 1) := by decide +kernel
theorem eL_679 : decode code 679 = .ok (.iadd, 1) := by decide +kernel
theorem eL_680 : decode code 680 = .ok (.iaload, 1) := by decide +kernel
theorem eL_681 : decode code 681 = .ok (.aload_n 0, 1) := by decide +kernel
theorem eL_682 : decode code 682 = .ok (.iload_n 3, 1) := by decide +kernel
theorem eL_683 : decode code 683 = .ok (.iconst 2, 1) := by decide +kernel
theorem eL_684 : decode code 684 = .ok (.iadd, 1) := by decide +kernel
theorem eL_685 : decode code 685 = .ok (.iaload, 1) := by decide +kernel
theorem eL_686 : decode code 686 = .ok (.invokevirtual 96, 3) := by decide +kernel
theorem eL_689 : decode code 689 = .ok (.if_icmp .eq 396, 3) := by decide +kernel
theorem eL_692 : decode code 692 = .ok (.iconst 0, 1) := by decide +kernel
theorem eL_693 : decode code 693 = .ok (.ireturn, 1) := by decide +kernel
theorem eL_694 : decode code 694 = .ok (.aload_n 1, 1) := by decide +kernel
theorem eL_695 : decode code 695 = .ok (.aload_n 0, 1) := by decide +kernel
theorem eL_696 : decode code 696 = .ok (.iload_n 3, 1) := by decide +kernel
theorem eL_697 : decode code 697 = .ok (.iconst 1, 1) := by decide +kernel
theorem eL_698 : decode code 698 = .ok (.iadd, 1) := by decide +kernel
theorem eL_699 : decode code 699 = .ok (.iaload, 1) := by decide +kernel
theorem eL_700 : decode code 700 = .ok (.aload_n 0, 1) := by decide +kernel
theorem eL_701 : decode code 701 = .ok (.iload_n 3, 1) := by decide +kernel
theorem eL_702 : decode code 702 = .ok (.iconst 2, 1) := by decide +kernel
theorem eL_703 : decode code 703 = .ok (.iadd, 1) := by decide +kernel
theorem eL_704 : decode code 704 = .ok (.iaload, 1) := by decide +kernel
theorem eL_705 : decode code 705 = .ok (.invokevirtual 97, 3) := by decide +kernel
theorem eL_708 : decode code 708 = .ok (.aload_n 2, 1) := by decide +kernel
theorem eL_709 : decode code 709 = .ok (.aload_n 0, 1) := by decide +kernel
theorem eL_710 : decode code 710 = .ok (.iload_n 3, 1) := by decide +kernel
theorem eL_711 : decode code 711 = .ok (.iconst 1, 1) := by decide +kernel
theorem eL_712 : decode code 712 = .ok (.iadd, 1) := by decide +kernel
theorem eL_713 : decode code 713 = .ok (.iaload, 1) := by decide +kernel
theorem eL_714 : decode code 714 = .ok (.aload_n 0, 1) := by decide +kernel
theorem eL_715 : decode code 715 = .ok (.iload_n 3, 1) := by decide +kernel
theorem eL_716 : decode code 716 = .ok (.iconst 2, 1) := by decide +kernel
theorem eL_717 : decode code 717 = .ok (.iadd, 1) := by decide +kernel
theorem eL_718 : decode code 718 = .ok (.iaload, 1) := by decide +kernel
theorem eL_719 : decode code 719 = .ok (.invokevirtual 100, 3) := by decide +kernel
theorem eL_722 : decode code 722 = .ok (.if_icmp .eq 363, 3) := by decide +kernel
theorem eL_725 : decode code 725 = .ok (.iconst 0, 1) := by decide +kernel
theorem eL_726 : decode code 726 = .ok (.ireturn, 1) := by decide +kernel
theorem eL_727 : decode code 727 = .ok (.aload_n 1, 1) := by decide +kernel
theorem eL_728 : decode code 728 = .ok (.aload_n 0, 1) := by decide +kernel
theorem eL_729 : decode code 729 = .ok (.iload_n 3, 1) := by decide +kernel
theorem eL_730 : decode code 730 = .ok (.iconst 1, 1) := by decide +kernel
theorem eL_731 : decode code 731 = .ok (.iadd, 1) := by decide +kernel
theorem eL_732 : decode code 732 = .ok (.iaload, 1) := by decide +kernel
theorem eL_733 : decode code 733 = .ok (.invokevirtual 101, 3) := by decide +kernel
theorem eL_736 : decode code 736 = .ok (.aload_n 2, 1) := by decide +kernel
theorem eL_737 : decode code 737 = .ok (.aload_n 0, 1) := by decide +kernel
theorem eL_738 : decode code 738 = .ok (.iload_n 3, 1) := by decide +kernel
theorem eL_739 : decode code 739 = .ok (.iconst 1, 1) := by decide +kernel
theorem eL_740 : decode code 740 = .ok (.iadd, 1) := by decide +kernel
theorem eL_741 : decode code 741 = .ok (.iaload, 1) := by decide +kernel
theorem eL_742 : decode code 742 = .ok (.invokevirtual 104, 3) := by decide +kernel
theorem eL_745 : decode code 745 = .ok (.if_icmp .eq 340, 3) := by decide +kernel
theorem eL_748 : decode code 748 = .ok (.iconst 0, 1) := by decide +kernel
theorem eL_749 : decode code 749 = .ok (.ireturn, 1) := by decide +kernel
theorem eL_750 : decode code 750 = .ok (.aload_n 1, 1) := by decide +kernel
theorem eL_751 : decode code 751 = .ok (.invokevirtual 105, 3) := by decide +kernel
theorem eL_754 : decode code 754 = .ok (.aload_n 2, 1) := by decide +kernel
theorem eL_755 : decode code 755 = .ok (.invokevirtual 108, 3) := by decide +kernel
theorem eL_758 : decode code 758 = .ok (.if_icmp .eq 327, 3) := by decide +kernel
theorem eL_761 : decode code 761 = .ok (.iconst 0, 1) := by decide +kernel
theorem eL_762 : decode code 762 = .ok (.ireturn, 1) := by decide +kernel
theorem eL_763 : decode code 763 = .ok (.aload_n 1, 1) := by decide +kernel
theorem eL_764 : decode code 764 = .ok (.aload_n 0, 1) := by decide +kernel
theorem eL_765 : decode code 765 = .ok (.iload_n 3, 1) := by decide +kernel
theorem eL_766 : decode code 766 = .ok (.iconst 1, 1) := by decide +kernel
theorem eL_767 : decode code 767 = .ok (.iadd, 1) := by decide +kernel
theorem eL_768 : decode code 768 = .ok (.iaload, 1) := by decide +kernel
theorem eL_769 : decode code 769 = .ok (.invokevirtual 109, 3) := by decide +kernel
theorem eL_772 : decode code 772 = .ok (.aload_n 2, 1) := by decide +kernel
theorem eL_773 : decode code 773 = .ok (.aload_n 0, 1) := by decide +kernel
theorem eL_774 : decode code 774 = .ok (.iload_n 3, 1) := by decide +kernel
theorem eL_775 : decode code 775 = .ok (.iconst 1, 1) := by decide +kernel
theorem eL_776 : decode code 776 = .ok (.iadd, 1) := by decide +kernel
theorem eL_777 : decode code 777 = .ok (.iaload, 1) := by decide +kernel
theorem eL_778 : decode code 778 = .ok (.invokevirtual 112, 3) := by decide +kernel
theorem eL_781 : decode code 781 = .ok (.if_icmp .eq 304, 3) := by decide +kernel
theorem eL_784 : decode code 784 = .ok (.iconst 0, 1) := by decide +kernel
theorem eL_785 : decode code 785 = .ok (.ireturn, 1) := by decide +kernel
theorem eL_786 : decode code 786 = .ok (.aload_n 1, 1) := by decide +kernel
theorem eL_787 : decode code 787 = .ok (.invokevirtual 113, 3) := by decide +kernel
theorem eL_790 : decode code 790 = .ok (.aload_n 2, 1) := by decide +kernel
theorem eL_791 : decode code 791 = .ok (.invokevirtual 116, 3) := by decide +kernel
theorem eL_794 : decode code 794 = .ok (.if_icmp .eq 291, 3) := by decide +kernel
theorem eL_797 : decode code 797 = .ok (.iconst 0, 1) := by decide +kernel
theorem eL_798 : decode code 798 = .ok (.ireturn, 1) := by decide +kernel
theorem eL_799 : decode code 799 = .ok (.aload_n 1, 1) := by decide +kernel
theorem eL_800 : decode code 800 = .ok (.invokevirtual 117, 3) := by decide +kernel
theorem eL_803 : decode code 803 = .ok (.aload_n 2, 1) := by decide +kernel
theorem eL_804 : decode code 804 = .ok (.invokevirtual 120, 3) := by decide +kernel
theorem eL_807 : decode code 807 = .ok (.if_icmp .eq 278, 3) := by decide +kernel
theorem eL_810 : decode code 810 = .ok (.iconst 0, 1) := by decide +kernel
theorem eL_811 : decode code 811 = .ok (.ireturn, 1) := by decide +kernel
theorem eL_812 : decode code 812 = .ok (.aload_n 1, 1) := by decide +kernel
theorem eL_813 : decode code 813 = .ok (.invokevirtual 121, 3) := by decide +kernel
theorem eL_816 : decode code 816 = .ok (.aload_n 2, 1) := by decide +kernel
theorem eL_817 : decode code 817 = .ok (.invokevirtual 124, 3) := by decide +kernel
theorem eL_820 : decode code 820 = .ok (.if_icmp .eq 265, 3) := by decide +kernel
theorem eL_823 : decode code 823 = .ok (.iconst 0, 1) := by decide +kernel
theorem eL_824 : decode code 824 = .ok (.ireturn, 1) := by decide +kernel
theorem eL_825 : decode code 825 = .ok (.aload_n 1, 1) := by decide +kernel
theorem eL_826 : decode code 826 = .ok (.aload_n 0, 1) := by decide +kernel
theorem eL_827 : decode code 827 = .ok (.iload_n 3, 1) := by decide +kernel
theorem eL_828 : decode code 828 = .ok (.iconst 1, 1) := by decide +kernel
theorem eL_829 : decode code 829 = .ok (.iadd, 1) := by decide +kernel
theorem eL_830 : decode code 830 = .ok (.iaload, 1) := by decide +kernel
theorem eL_831 : decode code 831 = .ok (.invokevirtual 125, 3) := by decide +kernel
theorem eL_834 : decode code 834 = .ok (.aload_n 2, 1) := by decide +kernel
theorem eL_835 : decode code 835 = .ok (.aload_n 0, 1) := by decide +kernel
theorem eL_836 : decode code 836 = .ok (.iload_n 3, 1) := by decide +kernel
theorem eL_837 : decode code 837 = .ok (.iconst 1, 1) := by decide +kernel
theorem eL_838 : decode code 838 = .ok (.iadd, 1) := by decide +kernel
theorem eL_839 : decode code 839 = .ok (.iaload, 1) := by decide +kernel
theorem eL_840 : decode code 840 = .ok (.invokevirtual 128, 3) := by decide +kernel
theorem eL_843 : decode code 843 = .ok (.if_icmp .eq 242, 3) := by decide +kernel
theorem eL_846 : decode code 846 = .ok (.iconst 0, 1) := by decide +kernel
theorem eL_847 : decode code 847 = .ok (.ireturn, 1) := by decide +kernel
theorem eL_848 : decode code 848 = .ok (.aload_n 1, 1) := by decide +kernel
theorem eL_849 : decode code 849 = .ok (.aload_n 0, 1) := by decide +kernel
theorem eL_850 : decode code 850 = .ok (.iload_n 3, 1) := by decide +kernel
theorem eL_851 : decode code 851 = .ok (.iconst 1, 1) := by decide +kernel
theorem eL_852 : decode code 852 = .ok (.iadd, 1) := by decide +kernel
theorem eL_853 : decode code 853 = .ok (.iaload, 1) := by decide +kernel
theorem eL_854 : decode code 854 = .ok (.ifCond .eq 7, 3) := by decide +kernel
theorem eL_857 : decode code 857 = .ok (.iconst 1, 1) := by decide +kernel
theorem eL_858 : decode code 858 = .ok (.goto 4, 3) := by decide +kernel
theorem eL_861 : decode code 861 = .ok (.iconst 0, 1) := by decide +kernel
theorem eL_862 : decode code 862 = .ok (.invokevirtual 129, 3) := by decide +kernel
theorem eL_865 : decode code 865 = .ok (.aload_n 2, 1) := by decide +kernel
theorem eL_866 : decode code 866 = .ok (.aload_n 0, 1) := by decide +kernel
theorem eL_867 : decode code 867 = .ok (.iload_n 3, 1) := by decide +kernel
theorem eL_868 : decode code 868 = .ok (.iconst 1, 1) := by decide +kernel
theorem eL_869 : decode code 869 = .ok (.iadd, 1) := by decide +kernel
theorem eL_870 : decode code 870 = .ok (.iaload, 1) := by decide +kernel
theorem eL_871 : decode code 871 = .ok (.ifCond .eq 7, 3) := by decide +kernel
theorem eL_874 : decode code 874 = .ok (.iconst 1, 1) := by decide +kernel
theorem eL_875 : decode code 875 = .ok (.goto 4, 3) := by decide +kernel
theorem eL_878 : decode code 878 = .ok (.iconst 0, 1) := by decide +kernel
theorem eL_879 : decode code 879 = .ok (.invokevirtual 133, 3) := by decide +kernel
theorem eL_882 : decode code 882 = .ok (.if_icmp .eq 203, 3) := by decide +kernel
theorem eL_885 : decode code 885 = .ok (.iconst 0, 1) := by decide +kernel
theorem eL_886 : decode code 886 = .ok (.ireturn, 1) := by decide +kernel
theorem eL_887 : decode code 887 = .ok (.aload_n 1, 1) := by decide +kernel
theorem eL_888 : decode code 888 = .ok (.aload_n 0, 1) := by decide +kernel
theorem eL_889 : decode code 889 = .ok (.iload_n 3, 1) := by decide +kernel
theorem eL_890 : decode code 890 = .ok (.iconst 1, 1) := by decide +kernel
theorem eL_891 : decode code 891 = .ok (.iadd, 1) := by decide +kernel
theorem eL_892 : decode code 892 = .ok (.iaload, 1) := by decide +kernel
theorem eL_893 : decode code 893 = .ok (.invokevirtual 134, 3) := by decide +kernel
theorem eL_896 : decode code 896 = .ok (.aload_n 2, 1) := by decide +kernel
theorem eL_897 : decode code 897 = .ok (.aload_n 0, 1) := by decide +kernel
theorem eL_898 : decode code 898 = .ok (.iload_n 3, 1) := by decide +kernel
theorem eL_899 : decode code 899 = .ok (.iconst 1, 1) := by decide +kernel
theorem eL_900 : decode code 900 = .ok (.iadd, 1) := by decide +kernel
theorem eL_901 : decode code 901 = .ok (.iaload, 1) := by decide +kernel
theorem eL_902 : decode code 902 = .ok (.invokevirtual 137, 3) := by decide +kernel
theorem eL_905 : decode code 905 = .ok (.if_icmp .eq 180, 3) := by decide +kernel
theorem eL_908 : decode code 908 = .ok (.iconst 0, 1) := by decide +kernel
theorem eL_909 : decode code 909 = .ok (.ireturn, 1) := by decide +kernel
theorem eL_910 : decode code 910 = .ok (.aload_n 1, 1) := by decide +kernel
theorem eL_911 : decode code 911 = .ok (.invokevirtual 138, 3) := by decide +kernel
theorem eL_914 : decode code 914 = .ok (.aload_n 2, 1) := by decide +kernel
theorem eL_915 : decode code 915 = .ok (.invokevirtual 141, 3) := by decide +kernel
theorem eL_918 : decode code 918 = .ok (.if_icmp .eq 167, 3) := by decide +kernel
theorem eL_921 : decode code 921 = .ok (.iconst 0, 1) := by decide +kernel
theorem eL_922 : decode code 922 = .ok (.ireturn, 1) := by decide +kernel
theorem eL_923 : decode code 923 = .ok (.aload_n 1, 1) := by decide +kernel
theorem eL_924 : decode code 924 = .ok (.invokevirtual 142, 3) := by decide +kernel
theorem eL_927 : decode code 927 = .ok (.aload_n 2, 1) := by decide +kernel
theorem eL_928 : decode code 928 = .ok (.invokevirtual 146, 3) := by decide +kernel
theorem eL_931 : decode code 931 = .ok (.lcmp, 1) := by decide +kernel
theorem eL_932 : decode code 932 = .ok (.ifCond .eq 153, 3) := by decide +kernel
theorem eL_935 : decode code 935 = .ok (.iconst 0, 1) := by decide +kernel
theorem eL_936 : decode code 936 = .ok (.ireturn, 1) := by decide +kernel
theorem eL_937 : decode code 937 = .ok (.aload_n 1, 1) := by decide +kernel
theorem eL_938 : decode code 938 = .ok (.invokevirtual 147, 3) := by decide +kernel
theorem eL_941 : decode code 941 = .ok (.aload_n 2, 1) := by decide +kernel
theorem eL_942 : decode code 942 = .ok (.invokevirtual 150, 3) := by decide +kernel
theorem eL_945 : decode code 945 = .ok (.lcmp, 1) := by decide +kernel
theorem eL_946 : decode code 946 = .ok (.ifCond .eq 139, 3) := by decide +kernel
theorem eL_949 : decode code 949 = .ok (.iconst 0, 1) := by decide +kernel
theorem eL_950 : decode code 950 = .ok (.ireturn, 1) := by decide +kernel
theorem eL_951 : decode code 951 = .ok (.aload_n 1, 1) := by decide +kernel
theorem eL_952 : decode code 952 = .ok (.invokevirtual 151, 3) := by decide +kernel
theorem eL_955 : decode code 955 = .ok (.aload_n 2, 1) := by decide +kernel
theorem eL_956 : decode code 956 = .ok (.invokevirtual 154, 3) := by decide +kernel
theorem eL_959 : decode code 959 = .ok (.if_icmp .eq 126, 3) := by decide +kernel
theorem eL_962 : decode code 962 = .ok (.iconst 0, 1) := by decide +kernel
theorem eL_963 : decode code 963 = .ok (.ireturn, 1) := by decide +kernel
theorem eL_964 : decode code 964 = .ok (.aload_n 1, 1) := by decide +kernel
theorem eL_965 : decode code 965 = .ok (.aload_n 0, 1) := by decide +kernel
theorem eL_966 : decode code 966 = .ok (.iload_n 3, 1) := by decide +kernel
theorem eL_967 : decode code 967 = .ok (.iconst 1, 1) := by decide +kernel
theorem eL_968 : decode code 968 = .ok (.iadd, 1) := by decide +kernel
theorem eL_969 : decode code 969 = .ok (.iaload, 1) := by decide +kernel
theorem eL_970 : decode code 970 = .ok (.invokevirtual 155, 3) := by decide +kernel
theorem eL_973 : decode code 973 = .ok (.aload_n 2, 1) := by decide +kernel
theorem eL_974 : decode code 974 = .ok (.aload_n 0, 1) := by decide +kernel
theorem eL_975 : decode code 975 = .ok (.iload_n 3, 1) := by decide +kernel
theorem eL_976 : decode code 976 = .ok (.iconst 1, 1) := by decide +kernel
theorem eL_977 : decode code 977 = .ok (.iadd, 1) := by decide +kernel
theorem eL_978 : decode code 978 = .ok (.iaload, 1) := by decide +kernel
theorem eL_979 : decode code 979 = .ok (.invokevirtual 158, 3) := by decide +kernel
theorem eL_982 : decode code 982 = .ok (.if_icmp .eq 103, 3) := by decide +kernel
theorem eL_985 : decode code 985 = .ok (.iconst 0, 1) := by decide +kernel
theorem eL_986 : decode code 986 = .ok (.ireturn, 1) := by decide +kernel
theorem eL_987 : decode code 987 = .ok (.aload_n 1, 1) := by decide +kernel
theorem eL_988 : decode code 988 = .ok (.invokevirtual 159, 3) := by decide +kernel
theorem eL_991 : decode code 991 = .ok (.aload_n 2, 1) := by decide +kernel
theorem eL_992 : decode code 992 = .ok (.invokevirtual 162, 3) := by decide +kernel
theorem eL_995 : decode code 995 = .ok (.if_icmp .eq 90, 3) := by decide +kernel
theorem eL_998 : decode code 998 = .ok (.iconst 0, 1) := by decide +kernel
theorem eL_999 : decode code 999 = .ok (.ireturn, 1) := by decide +kernel
theorem eL_1000 : decode code 1000 = .ok (.aload_n 1, 1) := by decide +kernel
theorem eL_1001 : decode code 1001 = .ok (.aload_n 0, 1) := by decide +kernel
theorem eL_1002 : decode code 1002 = .ok (.iload_n 3, 1) := by decide +kernel
theorem eL_1003 : decode code 1003 = .ok (.iconst 1, 1) := by decide +kernel
theorem eL_1004 : decode code 1004 = .ok (.iadd, 1) := by decide +kernel
theorem eL_1005 : decode code 1005 = .ok (.iaload, 1) := by decide +kernel
theorem eL_1006 : decode code 1006 = .ok (.ifCond .eq 7, 3) := by decide +kernel
theorem eL_1009 : decode code 1009 = .ok (.iconst 1, 1) := by decide +kernel
theorem eL_1010 : decode code 1010 = .ok (.goto 4, 3) := by decide +kernel
theorem eL_1013 : decode code 1013 = .ok (.iconst 0, 1) := by decide +kernel
theorem eL_1014 : decode code 1014 = .ok (.invokevirtual 163, 3) := by decide +kernel
theorem eL_1017 : decode code 1017 = .ok (.aload_n 2, 1) := by decide +kernel
theorem eL_1018 : decode code 1018 = .ok (.aload_n 0, 1) := by decide +kernel
theorem eL_1019 : decode code 1019 = .ok (.iload_n 3, 1) := by decide +kernel
theorem eL_1020 : decode code 1020 = .ok (.iconst 1, 1) := by decide +kernel
theorem eL_1021 : decode code 1021 = .ok (.iadd, 1) := by decide +kernel
theorem eL_1022 : decode code 1022 = .ok (.iaload, 1) := by decide +kernel
theorem eL_1023 : decode code 1023 = .ok (.ifCond .eq 7, 3) := by decide +kernel
theorem eL_1026 : decode code 1026 = .ok (.iconst 1, 1) := by decide +kernel
theorem eL_1027 : decode code 1027 = .ok (.goto 4, 3) := by decide +kernel
theorem eL_1030 : decode code 1030 = .ok (.iconst 0, 1) := by decide +kernel
theorem eL_1031 : decode code 1031 = .ok (.invokevirtual 166, 3) := by decide +kernel
theorem eL_1034 : decode code 1034 = .ok (.if_icmp .eq 51, 3) := by decide +kernel
theorem eL_1037 : decode code 1037 = .ok (.iconst 0, 1) := by decide +kernel
theorem eL_1038 : decode code 1038 = .ok (.ireturn, 1) := by decide +kernel
theorem eL_1039 : decode code 1039 = .ok (.aload_n 1, 1) := by decide +kernel
theorem eL_1040 : decode code 1040 = .ok (.aload_n 0, 1) := by decide +kernel
theorem eL_1041 : decode code 1041 = .ok (.iload_n 3, 1) := by decide +kernel
theorem eL_1042 : decode code 1042 = .ok (.iconst 1, 1) := by decide +kernel
theorem eL_1043 : decode code 1043 = .ok (.iadd, 1) := by decide +kernel
theorem eL_1044 : decode code 1044 = .ok (.iaload, 1) := by decide +kernel
theorem eL_1045 : decode code 1045 = .ok (.invokevirtual 167, 3) := by decide +kernel
theorem eL_1048 : decode code 1048 = .ok (.aload_n 2, 1) := by decide +kernel
theorem eL_1049 : decode code 1049 = .ok (.aload_n 0, 1) := by decide +kernel
theorem eL_1050 : decode code 1050 = .ok (.iload_n 3, 1) := by decide +kernel
theorem eL_1051 : decode code 1051 = .ok (.iconst 1, 1) := by decide +kernel
theorem eL_1052 : decode code 1052 = .ok (.iadd, 1) := by decide +kernel
theorem eL_1053 : decode code 1053 = .ok (.iaload, 1) := by decide +kernel
theorem eL_1054 : decode code 1054 = .ok (.invokevirtual 170, 3) := by decide +kernel
theorem eL_1057 : decode code 1057 = .ok (.if_icmp .eq 28, 3) := by decide +kernel
theorem eL_1060 : decode code 1060 = .ok (.iconst 0, 1) := by decide +kernel
theorem eL_1061 : decode code 1061 = .ok (.ireturn, 1) := by decide +kernel
theorem eL_1062 : decode code 1062 = .ok (.aload_n 1, 1) := by decide +kernel
theorem eL_1063 : decode code 1063 = .ok (.aload_n 0, 1) := by decide +kernel
theorem eL_1064 : decode code 1064 = .ok (.iload_n 3, 1) := by decide +kernel
theorem eL_1065 : decode code 1065 = .ok (.iconst 1, 1) := by decide +kernel
theorem eL_1066 : decode code 1066 = .ok (.iadd, 1) := by decide +kernel
theorem eL_1067 : decode code 1067 = .ok (.iaload, 1) := by decide +kernel
theorem eL_1068 : decode code 1068 = .ok (.invokevirtual 171, 3) := by decide +kernel
theorem eL_1071 : decode code 1071 = .ok (.aload_n 2, 1) := by decide +kernel
theorem eL_1072 : decode code 1072 = .ok (.aload_n 0, 1) := by decide +kernel
theorem eL_1073 : decode code 1073 = .ok (.iload_n 3, 1) := by decide +kernel
theorem eL_1074 : decode code 1074 = .ok (.iconst 1, 1) := by decide +kernel
theorem eL_1075 : decode code 1075 = .ok (.iadd, 1) := by decide +kernel
theorem eL_1076 : decode code 1076 = .ok (.iaload, 1) := by decide +kernel
theorem eL_1077 : decode code 1077 = .ok (.invokevirtual 174, 3) := by decide +kernel
theorem eL_1080 : decode code 1080 = .ok (.if_icmp .eq 5, 3) := by decide +kernel
theorem eL_1083 : decode code 1083 = .ok (.iconst 0, 1) := by decide +kernel
theorem eL_1084 : decode code 1084 = .ok (.ireturn, 1) := by decide +kernel
theorem eL_1085 : decode code 1085 = .ok (.iinc 3 4, 3) := by decide +kernel
theorem eL_1088 : decode code 1088 = .ok (.goto (-1070), 3) := by decide +kernel
theorem eL_1091 : decode code 1091 = .ok (.iconst 1, 1) := by decide +kernel
theorem eL_1092 : decode code 1092 = .ok (.ireturn, 1) := by decide +kernel
abbrev gL : zm_Sig := (⟨R_law, "law", "([I)Z"⟩, code, 4, ret, 9, 326)
theorem okL_13 : zm_okV gL 13 gX8_patch 2 := ⟨zm_all [240, 241, 242, 26, 243] _ (by decide +kernel) (by decide +kernel), by decide +kernel, by decide, by decide⟩
theorem okL_17 : zm_okV gL 17 gX9_patch 2 := ⟨zm_all [834, 835, 836, 35, 837] _ (by decide +kernel) (by decide +kernel), by decide +kernel, by decide, by decide⟩
theorem okL_18 : zm_okV gL 18 gX8_colours 1 := ⟨zm_all [294, 295, 296, 26, 297] _ (by decide +kernel) (by decide +kernel), by decide +kernel, by decide, by decide⟩
theorem okL_22 : zm_okV gL 22 gX9_colours 1 := ⟨zm_all [842, 843, 844, 35, 845] _ (by decide +kernel) (by decide +kernel), by decide +kernel, by decide, by decide⟩
theorem okL_23 : zm_okV gL 23 gX8_dye 2 := ⟨zm_all [310, 311, 312, 26, 313] _ (by decide +kernel) (by decide +kernel), by decide +kernel, by decide, by decide⟩
theorem okL_26 : zm_okV gL 26 gX9_dye 2 := ⟨zm_all [851, 852, 853, 35, 854] _ (by decide +kernel) (by decide +kernel), by decide +kernel, by decide, by decide⟩
theorem okL_27 : zm_okV gL 27 gX8_dyes 3 := ⟨zm_all [319, 320, 321, 26, 322] _ (by decide +kernel) (by decide +kernel), by decide +kernel, by decide, by decide⟩
theorem okL_31 : zm_okV gL 31 gX9_dyes 3 := ⟨zm_all [863, 864, 865, 35, 866] _ (by decide +kernel) (by decide +kernel), by decide +kernel, by decide, by decide⟩
theorem okL_32 : zm_okV gL 32 gX8_at 1 := ⟨zm_all [331, 332, 333, 26, 334] _ (by decide +kernel) (by decide +kernel), by decide +kernel, by decide, by decide⟩
theorem okL_35 : zm_okV gL 35 gX9_at 1 := ⟨zm_all [868, 869, 870, 35, 871] _ (by decide +kernel) (by decide +kernel), by decide +kernel, by decide, by decide⟩
theorem okL_36 : zm_okV gL 36 gX8_moves 0 := ⟨zm_all [335, 336, 337, 26, 338] _ (by decide +kernel) (by decide +kernel), by decide +kernel, by decide, by decide⟩
theorem okL_40 : zm_okV gL 40 gX9_moves 0 := ⟨zm_all [872, 873, 874, 35, 875] _ (by decide +kernel) (by decide +kernel), by decide +kernel, by decide, by decide⟩
theorem okL_41 : zm_okV gL 41 gX8_lead 2 := ⟨zm_all [343, 344, 345, 26, 346] _ (by decide +kernel) (by decide +kernel), by decide +kernel, by decide, by decide⟩
theorem okL_44 : zm_okV gL 44 gX9_lead 2 := ⟨zm_all [876, 877, 878, 35, 879] _ (by decide +kernel) (by decide +kernel), by decide +kernel, by decide, by decide⟩
theorem okL_45 : zm_okV gL 45 gX8_behind 2 := ⟨zm_all [360, 361, 362, 26, 363] _ (by decide +kernel) (by decide +kernel), by decide +kernel, by decide, by decide⟩
theorem okL_48 : zm_okV gL 48 gX9_behind 2 := ⟨zm_all [901, 902, 903, 35, 904] _ (by decide +kernel) (by decide +kernel), by decide +kernel, by decide, by decide⟩
theorem okL_49 : zm_okV gL 49 gX8_back 1 := ⟨zm_all [372, 373, 374, 26, 375] _ (by decide +kernel) (by decide +kernel), by decide +kernel, by decide, by decide⟩
theorem okL_52 : zm_okV gL 52 gX9_back 1 := ⟨zm_all [912, 913, 914, 35, 915] _ (by decide +kernel) (by decide +kernel), by decide +kernel, by decide, by decide⟩
theorem okL_53 : zm_okV gL 53 gX8_order 1 := ⟨zm_all [383, 384, 385, 26, 386] _ (by decide +kernel) (by decide +kernel), by decide +kernel, by decide, by decide⟩
theorem okL_56 : zm_okV gL 56 gX9_order 1 := ⟨zm_all [916, 917, 918, 35, 919] _ (by decide +kernel) (by decide +kernel), by decide +kernel, by decide, by decide⟩
theorem okL_57 : zm_okV gL 57 gX8_keeps 1 := ⟨zm_all [396, 397, 398, 26, 399] _ (by decide +kernel) (by decide +kernel), by decide +kernel, by decide, by decide⟩
theorem okL_60 : zm_okV gL 60 gX9_keeps 1 := ⟨zm_all [920, 921, 922, 35, 923] _ (by decide +kernel) (by decide +kernel), by decide +kernel, by decide, by decide⟩
theorem okL_61 : zm_okV gL 61 gX8_kept 1 := ⟨zm_all [408, 409, 410, 26, 411] _ (by decide +kernel) (by decide +kernel), by decide +kernel, by decide, by decide⟩
theorem okL_64 : zm_okV gL 64 gX9_kept 1 := ⟨zm_all [928, 929, 930, 35, 931] _ (by decide +kernel) (by decide +kernel), by decide +kernel, by decide, by decide⟩
theorem okL_65 : zm_okV gL 65 gX8_keeper 1 := ⟨zm_all [423, 424, 425, 26, 426] _ (by decide +kernel) (by decide +kernel), by decide +kernel, by decide, by decide⟩
theorem okL_68 : zm_okV gL 68 gX9_keeper 1 := ⟨zm_all [933, 934, 935, 35, 936] _ (by decide +kernel) (by decide +kernel), by decide +kernel, by decide, by decide⟩
theorem okL_69 : zm_okV gL 69 gX8_go 1 := ⟨zm_all [434, 435, 436, 26, 437] _ (by decide +kernel) (by decide +kernel), by decide +kernel, by decide, by decide⟩
theorem okL_72 : zm_okV gL 72 gX9_go 1 := ⟨zm_all [937, 938, 939, 35, 940] _ (by decide +kernel) (by decide +kernel), by decide +kernel, by decide, by decide⟩
theorem okL_73 : zm_okV gL 73 gX8_least 0 := ⟨zm_all [442, 443, 444, 26, 445] _ (by decide +kernel) (by decide +kernel), by decide +kernel, by decide, by decide⟩
theorem okL_76 : zm_okV gL 76 gX9_least 0 := ⟨zm_all [941, 942, 943, 35, 944] _ (by decide +kernel) (by decide +kernel), by decide +kernel, by decide, by decide⟩
theorem okL_77 : zm_okV gL 77 gX8_mirrored 1 := ⟨zm_all [446, 447, 448, 26, 449] _ (by decide +kernel) (by decide +kernel), by decide +kernel, by decide, by decide⟩
theorem okL_80 : zm_okV gL 80 gX9_mirrored 1 := ⟨zm_all [949, 950, 951, 35, 952] _ (by decide +kernel) (by decide +kernel), by decide +kernel, by decide, by decide⟩
theorem okL_81 : zm_okV gL 81 gX8_mirror 1 := ⟨zm_all [462, 463, 464, 26, 465] _ (by decide +kernel) (by decide +kernel), by decide +kernel, by decide, by decide⟩
theorem okL_84 : zm_okV gL 84 gX9_mirror 1 := ⟨zm_all [962, 963, 964, 35, 965] _ (by decide +kernel) (by decide +kernel), by decide +kernel, by decide, by decide⟩
theorem okL_85 : zm_okV gL 85 gX8_kind 0 := ⟨zm_all [469, 470, 471, 26, 472] _ (by decide +kernel) (by decide +kernel), by decide +kernel, by decide, by decide⟩
theorem okL_88 : zm_okV gL 88 gX9_kind 0 := ⟨zm_all [966, 967, 968, 35, 969] _ (by decide +kernel) (by decide +kernel), by decide +kernel, by decide, by decide⟩
theorem okL_89 : zm_okV gL 89 gX8_paints 0 := ⟨zm_all [510, 511, 512, 26, 513] _ (by decide +kernel) (by decide +kernel), by decide +kernel, by decide, by decide⟩
theorem okL_92 : zm_okV gL 92 gX9_paints 0 := ⟨zm_all [982, 983, 984, 35, 985] _ (by decide +kernel) (by decide +kernel), by decide +kernel, by decide, by decide⟩
theorem okL_93 : zm_okV gL 93 gX8_paint 2 := ⟨zm_all [518, 519, 520, 26, 521] _ (by decide +kernel) (by decide +kernel), by decide +kernel, by decide, by decide⟩
theorem okL_96 : zm_okV gL 96 gX9_paint 2 := ⟨zm_all [990, 991, 992, 35, 993] _ (by decide +kernel) (by decide +kernel), by decide +kernel, by decide, by decide⟩
theorem okL_97 : zm_okV gL 97 gX8_keepsBy 2 := ⟨zm_all [534, 535, 536, 26, 537] _ (by decide +kernel) (by decide +kernel), by decide +kernel, by decide, by decide⟩
theorem okL_100 : zm_okV gL 100 gX9_keepsBy 2 := ⟨zm_all [1002, 1003, 1004, 35, 1005] _ (by decide +kernel) (by decide +kernel), by decide +kernel, by decide, by decide⟩
theorem okL_101 : zm_okV gL 101 gX8_by 1 := ⟨zm_all [544, 545, 546, 26, 547] _ (by decide +kernel) (by decide +kernel), by decide +kernel, by decide, by decide⟩
theorem okL_104 : zm_okV gL 104 gX9_by 1 := ⟨zm_all [1010, 1011, 1012, 35, 1013] _ (by decide +kernel) (by decide +kernel), by decide +kernel, by decide, by decide⟩
theorem okL_105 : zm_okV gL 105 gX8_swaps 0 := ⟨zm_all [560, 561, 562, 26, 563] _ (by decide +kernel) (by decide +kernel), by decide +kernel, by decide, by decide⟩
theorem okL_108 : zm_okV gL 108 gX9_swaps 0 := ⟨zm_all [1018, 1019, 1020, 35, 1021] _ (by decide +kernel) (by decide +kernel), by decide +kernel, by decide, by decide⟩
theorem okL_109 : zm_okV gL 109 gX8_tell 1 := ⟨zm_all [571, 572, 573, 26, 574] _ (by decide +kernel) (by decide +kernel), by decide +kernel, by decide, by decide⟩
theorem okL_112 : zm_okV gL 112 gX9_tell 1 := ⟨zm_all [1022, 1023, 1024, 35, 1025] _ (by decide +kernel) (by decide +kernel), by decide +kernel, by decide, by decide⟩
theorem okL_113 : zm_okV gL 113 gX8_untell 0 := ⟨zm_all [579, 580, 581, 26, 582] _ (by decide +kernel) (by decide +kernel), by decide +kernel, by decide, by decide⟩
theorem okL_116 : zm_okV gL 116 gX9_untell 0 := ⟨zm_all [1026, 1027, 1028, 35, 1029] _ (by decide +kernel) (by decide +kernel), by decide +kernel, by decide, by decide⟩
theorem okL_117 : zm_okV gL 117 gX8_together 0 := ⟨zm_all [583, 584, 585, 26, 586] _ (by decide +kernel) (by decide +kernel), by decide +kernel, by decide, by decide⟩
theorem okL_120 : zm_okV gL 120 gX9_together 0 := ⟨zm_all [1030, 1031, 1032, 35, 1033] _ (by decide +kernel) (by decide +kernel), by decide +kernel, by decide, by decide⟩
theorem okL_121 : zm_okV gL 121 gX8_rings 0 := ⟨zm_all [592, 593, 594, 26, 595] _ (by decide +kernel) (by decide +kernel), by decide +kernel, by decide, by decide⟩
theorem okL_124 : zm_okV gL 124 gX9_rings 0 := ⟨zm_all [1034, 1035, 1036, 35, 1037] _ (by decide +kernel) (by decide +kernel), by decide +kernel, by decide, by decide⟩
theorem okL_125 : zm_okV gL 125 gX8_ring 1 := ⟨zm_all [600, 601, 602, 26, 603] _ (by decide +kernel) (by decide +kernel), by decide +kernel, by decide, by decide⟩
theorem okL_128 : zm_okV gL 128 gX9_ring 1 := ⟨zm_all [1042, 1043, 1044, 35, 1045] _ (by decide +kernel) (by decide +kernel), by decide +kernel, by decide, by decide⟩
theorem okL_129 : zm_okV gL 129 gX8_mend 1 := ⟨zm_all [604, 605, 606, 26, 607] _ (by decide +kernel) (by decide +kernel), by decide +kernel, by decide, by decide⟩
theorem okL_133 : zm_okV gL 133 gX9_mend 1 := ⟨zm_all [1046, 1047, 1048, 35, 1049] _ (by decide +kernel) (by decide +kernel), by decide +kernel, by decide, by decide⟩
theorem okL_134 : zm_okV gL 134 gX8_sure 1 := ⟨zm_all [624, 625, 626, 26, 627] _ (by decide +kernel) (by decide +kernel), by decide +kernel, by decide, by decide⟩
theorem okL_137 : zm_okV gL 137 gX9_sure 1 := ⟨zm_all [1058, 1059, 1060, 35, 1061] _ (by decide +kernel) (by decide +kernel), by decide +kernel, by decide, by decide⟩
theorem okL_138 : zm_okV gL 138 gX8_torn 0 := ⟨zm_all [636, 637, 638, 26, 639] _ (by decide +kernel) (by decide +kernel), by decide +kernel, by decide, by decide⟩
theorem okL_141 : zm_okV gL 141 gX9_torn 0 := ⟨zm_all [1062, 1063, 1064, 35, 1065] _ (by decide +kernel) (by decide +kernel), by decide +kernel, by decide, by decide⟩
theorem okL_142 : zm_okV gL 142 gX8_papers 0 := ⟨zm_all [644, 645, 646, 26, 647] _ (by decide +kernel) (by decide +kernel), by decide +kernel, by decide, by decide⟩
theorem okL_146 : zm_okV gL 146 gX9_papers 0 := ⟨zm_all [1066, 1067, 1068, 35, 1069] _ (by decide +kernel) (by decide +kernel), by decide +kernel, by decide, by decide⟩
theorem okL_147 : zm_okV gL 147 gX8_upTo 0 := ⟨zm_all [652, 653, 654, 26, 655] _ (by decide +kernel) (by decide +kernel), by decide +kernel, by decide, by decide⟩
theorem okL_150 : zm_okV gL 150 gX9_upTo 0 := ⟨zm_all [1075, 1076, 1077, 35, 1078] _ (by decide +kernel) (by decide +kernel), by decide +kernel, by decide, by decide⟩
theorem okL_151 : zm_okV gL 151 gX8_like 0 := ⟨zm_all [673, 674, 675, 26, 676] _ (by decide +kernel) (by decide +kernel), by decide +kernel, by decide, by decide⟩
theorem okL_154 : zm_okV gL 154 gX9_like 0 := ⟨zm_all [1079, 1080, 1081, 35, 1082] _ (by decide +kernel) (by decide +kernel), by decide +kernel, by decide, by decide⟩
theorem okL_155 : zm_okV gL 155 gX8_first 1 := ⟨zm_all [683, 684, 685, 26, 686] _ (by decide +kernel) (by decide +kernel), by decide +kernel, by decide, by decide⟩
theorem okL_158 : zm_okV gL 158 gX9_first 1 := ⟨zm_all [1083, 1084, 1085, 35, 1086] _ (by decide +kernel) (by decide +kernel), by decide +kernel, by decide, by decide⟩
theorem okL_159 : zm_okV gL 159 gX8_toFirst 0 := ⟨zm_all [703, 704, 705, 26, 706] _ (by decide +kernel) (by decide +kernel), by decide +kernel, by decide, by decide⟩
theorem okL_162 : zm_okV gL 162 gX9_toFirst 0 := ⟨zm_all [1091, 1092, 1093, 35, 1094] _ (by decide +kernel) (by decide +kernel), by decide +kernel, by decide, by decide⟩
theorem okL_163 : zm_okV gL 163 gX8_pieces 1 := ⟨zm_all [708, 709, 710, 26, 711] _ (by decide +kernel) (by decide +kernel), by decide +kernel, by decide, by decide⟩
theorem okL_166 : zm_okV gL 166 gX9_pieces 1 := ⟨zm_all [1095, 1096, 1097, 35, 1098] _ (by decide +kernel) (by decide +kernel), by decide +kernel, by decide, by decide⟩
theorem okL_167 : zm_okV gL 167 gX8_piece 1 := ⟨zm_all [735, 736, 737, 26, 738] _ (by decide +kernel) (by decide +kernel), by decide +kernel, by decide, by decide⟩
theorem okL_170 : zm_okV gL 170 gX9_piece 1 := ⟨zm_all [1103, 1104, 1105, 35, 1106] _ (by decide +kernel) (by decide +kernel), by decide +kernel, by decide, by decide⟩
theorem okL_171 : zm_okV gL 171 gX8_count 1 := ⟨zm_all [743, 744, 745, 26, 746] _ (by decide +kernel) (by decide +kernel), by decide +kernel, by decide, by decide⟩
theorem okL_174 : zm_okV gL 174 gX9_count 1 := ⟨zm_all [1107, 1108, 1109, 35, 1110] _ (by decide +kernel) (by decide +kernel), by decide +kernel, by decide, by decide⟩
/-- what stands still while the law runs -/
def zl_At (p : Program) (s : State) (m : MethodId) (meth : Method) (c : Code) (b L : Nat) (xs : Nat → Int32) (D : va_G) (c1 c2 : ClassId) : Prop := zm_At gL p s m #[Value.ref b] meth c D c1 c2 (fun q : Nat => s.heap.size ≤ q) ∧ va_X b L xs s s.heap ∧ b < s.heap.size
def zl_Z (p : Program) (l : Launch) (e : Env) (s : State) (m : MethodId) (below : List Frame) (meth : Method) (c : Code) (b : Nat) (D : va_G) (c1 c2 : ClassId) (ad : Nat → Nat) (pc : Nat) (x3 : Int32) (st : List Value) (mem : zm_Mem) : Prop := ∀ (H : Heap) (locs : List Loc) (ls : Array Slot), zm_Dy D c1 c2 ad (fun q : Nat => s.heap.size ≤ q) mem s H locs → lv_has ls 4 [(0, .ref b), (1, .ref (ad 0)), (2, .ref (ad 21)), (3, .int x3)] → W p l e room_1 s m #[Value.ref b] below meth c H locs 38 12249 (lw_Z below #[Value.ref b] s) (F0 m pc ls (st.map (zm_v ad)))
section ZLAW
variable {p : Program} {l : Launch} {e : Env} {s : State} {m : MethodId} {below : List Frame} {meth : Method} {c : Code} {b L : Nat} {xs : Nat → Int32} {D : va_G} {c1 c2 : ClassId} {ad : Nat → Nat} {pc : Nat} {x3 : Int32} {st : List Value} {mem : zm_Mem}
theorem zl_a1 (C : zl_At p s m meth c b L xs D c1 c2) (hd : decode code pc = .ok (.aload_n 1, 1)) (k : zl_Z p l e s m below meth c b D c1 c2 ad (pc + 1) x3 (.ref 0 :: st) mem) : zl_Z p l e s m below meth c b D c1 c2 ad pc x3 st mem := fun H locs ls Dy hl => lv_aload_n C.1.1 C.1.2.1 hd rfl (lv_at hl 1 rfl) (k H locs ls Dy hl)
theorem zl_a2 (C : zl_At p s m meth c b L xs D c1 c2) (hd : decode code pc = .ok (.aload_n 2, 1)) (k : zl_Z p l e s m below meth c b D c1 c2 ad (pc + 1) x3 (.ref 21 :: st) mem) : zl_Z p l e s m below meth c b D c1 c2 ad pc x3 st mem := fun H locs ls Dy hl => lv_aload_n C.1.1 C.1.2.1 hd rfl (lv_at hl 2 rfl) (k H locs ls Dy hl)
/-- script[i + j] -/
theorem zl_rd (C : zl_At p s m meth c b L xs D c1 c2) {i : Nat} (hL : L ≤ 2048) (j : Nat) {n : Int} {v : Int32} (hv : Int32.ofInt n = v) (hj : v = nI j) (hi : i + j < L) (ex : x3 = nI i) (d0 : decode code pc = .ok (.aload_n 0, 1)) (d1 : decode code (pc + 1) = .ok (.iload_n 3, 1)) (d2 : decode code (pc + 1 + 1) = .ok (.iconst n, 1)) (d3 : decode code (pc + 1 + 1 + 1) = .ok (.iadd, 1)) (d4 : decode code (pc + 1 + 1 + 1 + 1) = .ok (.iaload, 1)) (k : zl_Z p l e s m below meth c b D c1 c2 ad (pc + 5) x3 (.int (xs (i + j)) :: st) mem) : zl_Z p l e s m below meth c b D c1 c2 ad pc x3 st mem := by
  intro H locs ls Dy hl
  refine lv_aload_n C.1.1 C.1.2.1 d0 rfl (lv_at hl 0 rfl) ?_
  refine lv_iload_n C.1.1 C.1.2.1 d1 rfl (lv_at hl 3 rfl) ?_
  refine lv_iconst C.1.1 C.1.2.1 d2 hv ?_
  refine lv_iadd C.1.1 C.1.2.1 d3 ?_
  rw [ex, hj, nI_add]
  refine va_sld C.1.1 C.1.2.1 C.2.1 C.2.2 (Nat.not_le.mpr C.2.2) Dy.2.2 (pk_in (i + j) L hi rfl (by omega)) d4 ?_
  rw [nI_clamp (by omega)]
  exact k H locs ls Dy hl
/-- script[i + 1] != 0 -/
theorem zl_rb (C : zl_At p s m meth c b L xs D c1 c2) {x : Int32} (d0 : decode code pc = .ok (.ifCond .eq 7, 3)) (d1 : decode code (pc + 3) = .ok (.iconst 1, 1)) (d2 : decode code (pc + 3 + 1) = .ok (.goto 4, 3)) (d3 : decode code (pc + 7) = .ok (.iconst 0, 1)) (k : zl_Z p l e s m below meth c b D c1 c2 ad (pc + 8) x3 (.int (zb (!(decide (x = 0)))) :: st) mem) : zl_Z p l e s m below meth c b D c1 c2 ad pc x3 (.int x :: st) mem := by
  intro H locs ls Dy hl
  refine lv_if_eq (tgt := pc + 7) C.1.1 C.1.2.1 d0 (by omega) (fun q => ?_) (fun q => ?_)
  · refine lv_iconst C.1.1 C.1.2.1 d3 (v := 0) (by decide) ?_
    rw [decide_eq_true q] at k
    exact k H locs ls Dy hl
  · refine lv_iconst C.1.1 C.1.2.1 d1 (v := 1) (by decide) ?_
    refine lv_goto (tgt := pc + 8) C.1.1 C.1.2.1 d2 (by omega) ?_
    rw [decide_eq_false q] at k
    exact k H locs ls Dy hl
theorem zl_callI (C : zl_At p s m meth c b L xs D c1 c2) {g' : zm_Sig} {idx : Nat} {stk : List Value} (as : List Value) {q ci : Nat} {fl : List (Option Nat)} {T : u_T} {N : Nat} (hs : zm_sh[q]? = some (.inl (ci, fl))) (hc : zm_classes[ci]? = some (g'.1.cls, T, N)) (ok : zm_okV gL idx g' as.length) (hr : ∃ ty, g'.2.2.2.1 = some ty ∧ ¬ ty = .long) (hstk : stk = as.reverse ++ .ref q :: st) (hw : (st.map fun v => v.category).sum ≤ 8) (hd : decode code pc = .ok (.invokevirtual idx, 3)) (k : zm_Call g' (.ref q :: as) mem (fun r w u => zl_Z p l e s m below meth c b D c1 c2 ad (pc + 3) x3 (.int r :: st) u)) : zl_Z p l e s m below meth c b D c1 c2 ad pc x3 stk mem := by
  intro H locs ls Dy hl
  obtain ⟨C, -, -⟩ := C
  have eQ : ∀ (Y : zm_Post) (B : zm_Mem → State → Prop) (A1 : Nat → Prop), zm_Q g'.2.2.2.1 Y B A1 = va_Qi (fun r u => Y r 0 u) B A1 := by
    obtain ⟨ty, hr, hnl⟩ := hr
    intro Y B A1
    rw [hr]
    cases ty <;> first | rfl | exact absurd rfl hnl
  subst hstk
  rw [zm_stk ad as st q]
  have hrun : va_Run p l e room_1 s m #[Value.ref b] below meth c H locs 38 12249 0 0 (F0 m pc ls ((as.map (zm_v ad)).reverse ++ .ref (ad q) :: st.map (zm_v ad))) (st.map (zm_v ad)) (zm_Q g'.2.2.2.1 (fun r w u => zl_Z p l e s m below meth c b D c1 c2 ad (pc + 3) x3 (.int r :: st) u) (zm_B D c1 c2 ad (va_A (zm_pic c1 c2 ad mem) H.size)) (va_A (zm_pic c1 c2 ad mem) H.size) (Value.ref (ad q) :: as.map (zm_v ad)).toArray) (va_A (zm_pic c1 c2 ad mem) H.size) := va_runV (As := as.map (zm_v ad)) (rest := st.map (zm_v ad)) (C := g'.1.cls) (n := as.length) (b := ad q) ⟨C.1, C.2.1, C.2.2.2.2.1, C.2.2.2.2.2.1, C.2.2.2.2.2.2.1⟩ (k l D c1 c2 ad H.size) (cwV as.length C.2.2.2.2.2.2.1 (zm_goodV ok) rfl rfl rfl ⟨rfl, ok.2.1⟩ ok.2.2) ⟨zm_blind, va_recv C.2.2.2.2.2.2.2.1 Dy.1 hc (zm_at hs), zm_pre C Dy (.ref q :: as)⟩ rfl (by simp) hl.1 rfl (lv_room (by rw [zm_catsum]; exact hw)) hd ⟨Nat.le_refl _, Nat.le_refl _⟩
  rw [eQ] at hrun
  refine va_calli hrun Dy.2.2 (fun q _ h => zm_sub C Dy q h) (zm_sub C Dy) (fun r u t H1 locs1 ht hvm hp hB hz hk hS => ?_)
  obtain ⟨hP1, hK1, hD1⟩ := hB
  rw [ht] at hP1
  exact hp H1 locs1 ls ⟨hP1, hD1.weaken (fun _ q _ h => zm_sub C Dy _ h), hS⟩ hl
theorem zl_callL (C : zl_At p s m meth c b L xs D c1 c2) {g' : zm_Sig} {idx : Nat} {stk : List Value} (as : List Value) {q ci : Nat} {fl : List (Option Nat)} {T : u_T} {N : Nat} (hs : zm_sh[q]? = some (.inl (ci, fl))) (hc : zm_classes[ci]? = some (g'.1.cls, T, N)) (ok : zm_okV gL idx g' as.length) (hr : g'.2.2.2.1 = some .long) (hstk : stk = as.reverse ++ .ref q :: st) (hw : (st.map fun v => v.category).sum ≤ 8) (hd : decode code pc = .ok (.invokevirtual idx, 3)) (k : zm_Call g' (.ref q :: as) mem (fun r w u => zl_Z p l e s m below meth c b D c1 c2 ad (pc + 3) x3 (.long w :: st) u)) : zl_Z p l e s m below meth c b D c1 c2 ad pc x3 stk mem := by
  intro H locs ls Dy hl
  obtain ⟨C, -, -⟩ := C
  have eQ : ∀ (Y : zm_Post) (B : zm_Mem → State → Prop) (A1 : Nat → Prop), zm_Q g'.2.2.2.1 Y B A1 = va_Ql (fun r u => Y 0 r u) B A1 := by
    intro Y B A1
    rw [hr]
    rfl
  subst hstk
  rw [zm_stk ad as st q]
  have hrun : va_Run p l e room_1 s m #[Value.ref b] below meth c H locs 38 12249 0 0 (F0 m pc ls ((as.map (zm_v ad)).reverse ++ .ref (ad q) :: st.map (zm_v ad))) (st.map (zm_v ad)) (zm_Q g'.2.2.2.1 (fun r w u => zl_Z p l e s m below meth c b D c1 c2 ad (pc + 3) x3 (.long w :: st) u) (zm_B D c1 c2 ad (va_A (zm_pic c1 c2 ad mem) H.size)) (va_A (zm_pic c1 c2 ad mem) H.size) (Value.ref (ad q) :: as.map (zm_v ad)).toArray) (va_A (zm_pic c1 c2 ad mem) H.size) := va_runV (As := as.map (zm_v ad)) (rest := st.map (zm_v ad)) (C := g'.1.cls) (n := as.length) (b := ad q) ⟨C.1, C.2.1, C.2.2.2.2.1, C.2.2.2.2.2.1, C.2.2.2.2.2.2.1⟩ (k l D c1 c2 ad H.size) (cwV as.length C.2.2.2.2.2.2.1 (zm_goodV ok) rfl rfl rfl ⟨rfl, ok.2.1⟩ ok.2.2) ⟨zm_blind, va_recv C.2.2.2.2.2.2.2.1 Dy.1 hc (zm_at hs), zm_pre C Dy (.ref q :: as)⟩ rfl (by simp) hl.1 rfl (lv_room (by rw [zm_catsum]; exact hw)) hd ⟨Nat.le_refl _, Nat.le_refl _⟩
  rw [eQ] at hrun
  refine va_calll hrun Dy.2.2 (fun q _ h => zm_sub C Dy q h) (zm_sub C Dy) (fun r u t H1 locs1 ht hvm hp hB hz hk hS => ?_)
  obtain ⟨hP1, hK1, hD1⟩ := hB
  rw [ht] at hP1
  exact hp H1 locs1 ls ⟨hP1, hD1.weaken (fun _ q _ h => zm_sub C Dy _ h), hS⟩ hl
theorem zl_eq (C : zl_At p s m meth c b L xs D c1 c2) {x y : Int32} {off : Int} {tgt : Nat} (hd : decode code pc = .ok (.if_icmp .eq off, 3)) (ht : (pc : Int) + off = (tgt : Int)) (hxy : x = y) (k : zl_Z p l e s m below meth c b D c1 c2 ad tgt x3 st mem) : zl_Z p l e s m below meth c b D c1 c2 ad pc x3 (.int y :: .int x :: st) mem := fun H locs ls Dy hl => lv_icmp_eq C.1.1 C.1.2.1 hd ht (fun _ => k H locs ls Dy hl) (fun q => absurd hxy q)
theorem zl_cmp {x : Int64} : lg_cmp x x = 0 := by
  unfold lg_cmp
  simp
theorem zl_leq (C : zl_At p s m meth c b L xs D c1 c2) {x y : Int64} {off : Int} {tgt : Nat} (hd0 : decode code pc = .ok (.lcmp, 1)) (hd : decode code (pc + 1) = .ok (.ifCond .eq off, 3)) (ht : ((pc + 1 : Nat) : Int) + off = (tgt : Int)) (hxy : x = y) (k : zl_Z p l e s m below meth c b D c1 c2 ad tgt x3 st mem) : zl_Z p l e s m below meth c b D c1 c2 ad pc x3 (.long y :: .long x :: st) mem := by
  intro H locs ls Dy hl
  subst hxy
  refine W.lcmp C.1.1 C.1.2.1 hd0 ?_
  exact lv_if_eq C.1.1 C.1.2.1 hd ht (fun _ => k H locs ls Dy hl) (fun q => absurd zl_cmp q)
end ZLAW
