section ZLCASE
variable {p : Program} {l : Launch} {e : Env} {s : State} {m : MethodId} {below : List Frame} {meth : Method} {c : Code} {b L : Nat} {xs : Nat → Int32} {D : va_G} {c1 c2 : ClassId} {ad : Nat → Nat} {mem : zm_Mem} {i : Nat}
theorem zc_0 (C : zl_At p s m meth c b L xs D c1 c2) (hL : L ≤ 2048) (hi : i + 4 ≤ L) (K : ∀ u, zInv u → zl_Z p l e s m below meth c b D c1 c2 ad 1085 (nI i) [] u) (I : zInv mem) : zl_Z p l e s m below meth c b D c1 c2 ad 204 (nI i) [] mem := by
  obtain ⟨w0, h0, n0, k0, dy0, t0, mv0, r0, J⟩ := I
  refine zl_a1 C eL_204 ?_
  refine zl_rd C hL 1 (v := 1) (by decide) rfl (by omega) rfl eL_205 eL_206 eL_207 eL_208 eL_209 ?_
  refine zl_rd C hL 2 (v := 2) (by decide) rfl (by omega) rfl eL_210 eL_211 eL_212 eL_213 eL_214 ?_
  refine zl_callI C (g' := gX8_patch) [.int (xs (i + 1)), .int (xs (i + 2))] (q := 0) (ci := 8) (T := TX8) rfl rfl okL_13 ⟨_, rfl, by decide⟩ rfl (Nat.le_of_ble_eq_true rfl) eL_215 (zm_Call.mono (st_patch J (xs (i + 1)) (xs (i + 2))) (fun r w u k1 => ?_))
  refine zl_a2 C eL_218 ?_
  refine zl_rd C hL 1 (v := 1) (by decide) rfl (by omega) rfl eL_219 eL_220 eL_221 eL_222 eL_223 ?_
  refine zl_rd C hL 2 (v := 2) (by decide) rfl (by omega) rfl eL_224 eL_225 eL_226 eL_227 eL_228 ?_
  refine zl_callI C (g' := gX9_patch) [.int (xs (i + 1)), .int (xs (i + 2))] (q := 21) (ci := 9) (T := TX9) rfl rfl okL_17 ⟨_, rfl, by decide⟩ rfl (Nat.le_of_ble_eq_true rfl) eL_229 (zm_Call.mono k1 (fun r2 w2 u2 k2 => ?_))
  exact zl_eq C eL_232 (tgt := 1085) (by decide) k2.1 (K u2 k2.2.2)
theorem zc_1 (C : zl_At p s m meth c b L xs D c1 c2) (hL : L ≤ 2048) (hi : i + 4 ≤ L) (K : ∀ u, zInv u → zl_Z p l e s m below meth c b D c1 c2 ad 1085 (nI i) [] u) (I : zInv mem) : zl_Z p l e s m below meth c b D c1 c2 ad 237 (nI i) [] mem := by
  obtain ⟨w0, h0, n0, k0, dy0, t0, mv0, r0, J⟩ := I
  refine zl_a1 C eL_237 ?_
  refine zl_rd C hL 1 (v := 1) (by decide) rfl (by omega) rfl eL_238 eL_239 eL_240 eL_241 eL_242 ?_
  refine zl_callI C (g' := gX8_colours) [.int (xs (i + 1))] (q := 0) (ci := 8) (T := TX8) rfl rfl okL_18 ⟨_, rfl, by decide⟩ rfl (Nat.le_of_ble_eq_true rfl) eL_243 (zm_Call.mono (st_colours J (xs (i + 1))) (fun r w u k1 => ?_))
  refine zl_a2 C eL_246 ?_
  refine zl_rd C hL 1 (v := 1) (by decide) rfl (by omega) rfl eL_247 eL_248 eL_249 eL_250 eL_251 ?_
  refine zl_callI C (g' := gX9_colours) [.int (xs (i + 1))] (q := 21) (ci := 9) (T := TX9) rfl rfl okL_22 ⟨_, rfl, by decide⟩ rfl (Nat.le_of_ble_eq_true rfl) eL_252 (zm_Call.mono k1 (fun r2 w2 u2 k2 => ?_))
  exact zl_eq C eL_255 (tgt := 1085) (by decide) k2.1 (K u2 k2.2.2)
theorem zc_2 (C : zl_At p s m meth c b L xs D c1 c2) (hL : L ≤ 2048) (hi : i + 4 ≤ L) (K : ∀ u, zInv u → zl_Z p l e s m below meth c b D c1 c2 ad 1085 (nI i) [] u) (I : zInv mem) : zl_Z p l e s m below meth c b D c1 c2 ad 260 (nI i) [] mem := by
  obtain ⟨w0, h0, n0, k0, dy0, t0, mv0, r0, J⟩ := I
  refine zl_a1 C eL_260 ?_
  refine zl_rd C hL 1 (v := 1) (by decide) rfl (by omega) rfl eL_261 eL_262 eL_263 eL_264 eL_265 ?_
  refine zl_rd C hL 2 (v := 2) (by decide) rfl (by omega) rfl eL_266 eL_267 eL_268 eL_269 eL_270 ?_
  refine zl_callI C (g' := gX8_dye) [.int (xs (i + 1)), .int (xs (i + 2))] (q := 0) (ci := 8) (T := TX8) rfl rfl okL_23 ⟨_, rfl, by decide⟩ rfl (Nat.le_of_ble_eq_true rfl) eL_271 (zm_Call.mono (st_dye J (xs (i + 1)) (xs (i + 2))) (fun r w u k1 => ?_))
  refine zl_a2 C eL_274 ?_
  refine zl_rd C hL 1 (v := 1) (by decide) rfl (by omega) rfl eL_275 eL_276 eL_277 eL_278 eL_279 ?_
  refine zl_rd C hL 2 (v := 2) (by decide) rfl (by omega) rfl eL_280 eL_281 eL_282 eL_283 eL_284 ?_
  refine zl_callI C (g' := gX9_dye) [.int (xs (i + 1)), .int (xs (i + 2))] (q := 21) (ci := 9) (T := TX9) rfl rfl okL_26 ⟨_, rfl, by decide⟩ rfl (Nat.le_of_ble_eq_true rfl) eL_285 (zm_Call.mono k1 (fun r2 w2 u2 k2 => ?_))
  exact zl_eq C eL_288 (tgt := 1085) (by decide) k2.1 (K u2 k2.2.2)
theorem zc_3 (C : zl_At p s m meth c b L xs D c1 c2) (hL : L ≤ 2048) (hi : i + 4 ≤ L) (K : ∀ u, zInv u → zl_Z p l e s m below meth c b D c1 c2 ad 1085 (nI i) [] u) (I : zInv mem) : zl_Z p l e s m below meth c b D c1 c2 ad 293 (nI i) [] mem := by
  obtain ⟨w0, h0, n0, k0, dy0, t0, mv0, r0, J⟩ := I
  refine zl_a1 C eL_293 ?_
  refine zl_rd C hL 1 (v := 1) (by decide) rfl (by omega) rfl eL_294 eL_295 eL_296 eL_297 eL_298 ?_
  refine zl_rd C hL 2 (v := 2) (by decide) rfl (by omega) rfl eL_299 eL_300 eL_301 eL_302 eL_303 ?_
  refine zl_rd C hL 3 (v := 3) (by decide) rfl (by omega) rfl eL_304 eL_305 eL_306 eL_307 eL_308 ?_
  refine zl_callI C (g' := gX8_dyes) [.int (xs (i + 1)), .int (xs (i + 2)), .int (xs (i + 3))] (q := 0) (ci := 8) (T := TX8) rfl rfl okL_27 ⟨_, rfl, by decide⟩ rfl (Nat.le_of_ble_eq_true rfl) eL_309 (zm_Call.mono (st_dyes J (xs (i + 1)) (xs (i + 2)) (xs (i + 3))) (fun r w u k1 => ?_))
  refine zl_a2 C eL_312 ?_
  refine zl_rd C hL 1 (v := 1) (by decide) rfl (by omega) rfl eL_313 eL_314 eL_315 eL_316 eL_317 ?_
  refine zl_rd C hL 2 (v := 2) (by decide) rfl (by omega) rfl eL_318 eL_319 eL_320 eL_321 eL_322 ?_
  refine zl_rd C hL 3 (v := 3) (by decide) rfl (by omega) rfl eL_323 eL_324 eL_325 eL_326 eL_327 ?_
  refine zl_callI C (g' := gX9_dyes) [.int (xs (i + 1)), .int (xs (i + 2)), .int (xs (i + 3))] (q := 21) (ci := 9) (T := TX9) rfl rfl okL_31 ⟨_, rfl, by decide⟩ rfl (Nat.le_of_ble_eq_true rfl) eL_328 (zm_Call.mono k1 (fun r2 w2 u2 k2 => ?_))
  exact zl_eq C eL_331 (tgt := 1085) (by decide) k2.1 (K u2 k2.2.2)
theorem zc_4 (C : zl_At p s m meth c b L xs D c1 c2) (hL : L ≤ 2048) (hi : i + 4 ≤ L) (K : ∀ u, zInv u → zl_Z p l e s m below meth c b D c1 c2 ad 1085 (nI i) [] u) (I : zInv mem) : zl_Z p l e s m below meth c b D c1 c2 ad 336 (nI i) [] mem := by
  obtain ⟨w0, h0, n0, k0, dy0, t0, mv0, r0, J⟩ := I
  refine zl_a1 C eL_336 ?_
  refine zl_rd C hL 1 (v := 1) (by decide) rfl (by omega) rfl eL_337 eL_338 eL_339 eL_340 eL_341 ?_
  refine zl_callI C (g' := gX8_at) [.int (xs (i + 1))] (q := 0) (ci := 8) (T := TX8) rfl rfl okL_32 ⟨_, rfl, by decide⟩ rfl (Nat.le_of_ble_eq_true rfl) eL_342 (zm_Call.mono (st_at J (xs (i + 1))) (fun r w u k1 => ?_))
  refine zl_a2 C eL_345 ?_
  refine zl_rd C hL 1 (v := 1) (by decide) rfl (by omega) rfl eL_346 eL_347 eL_348 eL_349 eL_350 ?_
  refine zl_callI C (g' := gX9_at) [.int (xs (i + 1))] (q := 21) (ci := 9) (T := TX9) rfl rfl okL_35 ⟨_, rfl, by decide⟩ rfl (Nat.le_of_ble_eq_true rfl) eL_351 (zm_Call.mono k1 (fun r2 w2 u2 k2 => ?_))
  exact zl_eq C eL_354 (tgt := 1085) (by decide) k2.1 (K u2 k2.2.2)
theorem zc_5 (C : zl_At p s m meth c b L xs D c1 c2) (hL : L ≤ 2048) (hi : i + 4 ≤ L) (K : ∀ u, zInv u → zl_Z p l e s m below meth c b D c1 c2 ad 1085 (nI i) [] u) (I : zInv mem) : zl_Z p l e s m below meth c b D c1 c2 ad 359 (nI i) [] mem := by
  obtain ⟨w0, h0, n0, k0, dy0, t0, mv0, r0, J⟩ := I
  refine zl_a1 C eL_359 ?_
  refine zl_callI C (g' := gX8_moves) [] (q := 0) (ci := 8) (T := TX8) rfl rfl okL_36 ⟨_, rfl, by decide⟩ rfl (Nat.le_of_ble_eq_true rfl) eL_360 (zm_Call.mono (st_moves J ) (fun r w u k1 => ?_))
  refine zl_a2 C eL_363 ?_
  refine zl_callI C (g' := gX9_moves) [] (q := 21) (ci := 9) (T := TX9) rfl rfl okL_40 ⟨_, rfl, by decide⟩ rfl (Nat.le_of_ble_eq_true rfl) eL_364 (zm_Call.mono k1 (fun r2 w2 u2 k2 => ?_))
  exact zl_eq C eL_367 (tgt := 1085) (by decide) k2.1 (K u2 k2.2.2)
theorem zc_6 (C : zl_At p s m meth c b L xs D c1 c2) (hL : L ≤ 2048) (hi : i + 4 ≤ L) (K : ∀ u, zInv u → zl_Z p l e s m below meth c b D c1 c2 ad 1085 (nI i) [] u) (I : zInv mem) : zl_Z p l e s m below meth c b D c1 c2 ad 372 (nI i) [] mem := by
  obtain ⟨w0, h0, n0, k0, dy0, t0, mv0, r0, J⟩ := I
  refine zl_a1 C eL_372 ?_
  refine zl_rd C hL 1 (v := 1) (by decide) rfl (by omega) rfl eL_373 eL_374 eL_375 eL_376 eL_377 ?_
  refine zl_rd C hL 2 (v := 2) (by decide) rfl (by omega) rfl eL_378 eL_379 eL_380 eL_381 eL_382 ?_
  refine zl_callI C (g' := gX8_lead) [.int (xs (i + 1)), .int (xs (i + 2))] (q := 0) (ci := 8) (T := TX8) rfl rfl okL_41 ⟨_, rfl, by decide⟩ rfl (Nat.le_of_ble_eq_true rfl) eL_383 (zm_Call.mono (st_lead J (xs (i + 1)) (xs (i + 2))) (fun r w u k1 => ?_))
  refine zl_a2 C eL_386 ?_
  refine zl_rd C hL 1 (v := 1) (by decide) rfl (by omega) rfl eL_387 eL_388 eL_389 eL_390 eL_391 ?_
  refine zl_rd C hL 2 (v := 2) (by decide) rfl (by omega) rfl eL_392 eL_393 eL_394 eL_395 eL_396 ?_
  refine zl_callI C (g' := gX9_lead) [.int (xs (i + 1)), .int (xs (i + 2))] (q := 21) (ci := 9) (T := TX9) rfl rfl okL_44 ⟨_, rfl, by decide⟩ rfl (Nat.le_of_ble_eq_true rfl) eL_397 (zm_Call.mono k1 (fun r2 w2 u2 k2 => ?_))
  exact zl_eq C eL_400 (tgt := 1085) (by decide) k2.1 (K u2 k2.2.2)
theorem zc_7 (C : zl_At p s m meth c b L xs D c1 c2) (hL : L ≤ 2048) (hi : i + 4 ≤ L) (K : ∀ u, zInv u → zl_Z p l e s m below meth c b D c1 c2 ad 1085 (nI i) [] u) (I : zInv mem) : zl_Z p l e s m below meth c b D c1 c2 ad 405 (nI i) [] mem := by
  obtain ⟨w0, h0, n0, k0, dy0, t0, mv0, r0, J⟩ := I
  refine zl_a1 C eL_405 ?_
  refine zl_rd C hL 1 (v := 1) (by decide) rfl (by omega) rfl eL_406 eL_407 eL_408 eL_409 eL_410 ?_
  refine zl_rd C hL 2 (v := 2) (by decide) rfl (by omega) rfl eL_411 eL_412 eL_413 eL_414 eL_415 ?_
  refine zl_callI C (g' := gX8_behind) [.int (xs (i + 1)), .int (xs (i + 2))] (q := 0) (ci := 8) (T := TX8) rfl rfl okL_45 ⟨_, rfl, by decide⟩ rfl (Nat.le_of_ble_eq_true rfl) eL_416 (zm_Call.mono (st_behind J (xs (i + 1)) (xs (i + 2))) (fun r w u k1 => ?_))
  refine zl_a2 C eL_419 ?_
  refine zl_rd C hL 1 (v := 1) (by decide) rfl (by omega) rfl eL_420 eL_421 eL_422 eL_423 eL_424 ?_
  refine zl_rd C hL 2 (v := 2) (by decide) rfl (by omega) rfl eL_425 eL_426 eL_427 eL_428 eL_429 ?_
  refine zl_callI C (g' := gX9_behind) [.int (xs (i + 1)), .int (xs (i + 2))] (q := 21) (ci := 9) (T := TX9) rfl rfl okL_48 ⟨_, rfl, by decide⟩ rfl (Nat.le_of_ble_eq_true rfl) eL_430 (zm_Call.mono k1 (fun r2 w2 u2 k2 => ?_))
  exact zl_eq C eL_433 (tgt := 1085) (by decide) k2.1 (K u2 k2.2.2)
theorem zc_8 (C : zl_At p s m meth c b L xs D c1 c2) (hL : L ≤ 2048) (hi : i + 4 ≤ L) (K : ∀ u, zInv u → zl_Z p l e s m below meth c b D c1 c2 ad 1085 (nI i) [] u) (I : zInv mem) : zl_Z p l e s m below meth c b D c1 c2 ad 438 (nI i) [] mem := by
  obtain ⟨w0, h0, n0, k0, dy0, t0, mv0, r0, J⟩ := I
  refine zl_a1 C eL_438 ?_
  refine zl_rd C hL 1 (v := 1) (by decide) rfl (by omega) rfl eL_439 eL_440 eL_441 eL_442 eL_443 ?_
  refine zl_callI C (g' := gX8_back) [.int (xs (i + 1))] (q := 0) (ci := 8) (T := TX8) rfl rfl okL_49 ⟨_, rfl, by decide⟩ rfl (Nat.le_of_ble_eq_true rfl) eL_444 (zm_Call.mono (st_back J (xs (i + 1))) (fun r w u k1 => ?_))
  refine zl_a2 C eL_447 ?_
  refine zl_rd C hL 1 (v := 1) (by decide) rfl (by omega) rfl eL_448 eL_449 eL_450 eL_451 eL_452 ?_
  refine zl_callI C (g' := gX9_back) [.int (xs (i + 1))] (q := 21) (ci := 9) (T := TX9) rfl rfl okL_52 ⟨_, rfl, by decide⟩ rfl (Nat.le_of_ble_eq_true rfl) eL_453 (zm_Call.mono k1 (fun r2 w2 u2 k2 => ?_))
  exact zl_eq C eL_456 (tgt := 1085) (by decide) k2.1 (K u2 k2.2.2)
theorem zc_9 (C : zl_At p s m meth c b L xs D c1 c2) (hL : L ≤ 2048) (hi : i + 4 ≤ L) (K : ∀ u, zInv u → zl_Z p l e s m below meth c b D c1 c2 ad 1085 (nI i) [] u) (I : zInv mem) : zl_Z p l e s m below meth c b D c1 c2 ad 461 (nI i) [] mem := by
  obtain ⟨w0, h0, n0, k0, dy0, t0, mv0, r0, J⟩ := I
  refine zl_a1 C eL_461 ?_
  refine zl_rd C hL 1 (v := 1) (by decide) rfl (by omega) rfl eL_462 eL_463 eL_464 eL_465 eL_466 ?_
  refine zl_callI C (g' := gX8_order) [.int (xs (i + 1))] (q := 0) (ci := 8) (T := TX8) rfl rfl okL_53 ⟨_, rfl, by decide⟩ rfl (Nat.le_of_ble_eq_true rfl) eL_467 (zm_Call.mono (st_order J (xs (i + 1))) (fun r w u k1 => ?_))
  refine zl_a2 C eL_470 ?_
  refine zl_rd C hL 1 (v := 1) (by decide) rfl (by omega) rfl eL_471 eL_472 eL_473 eL_474 eL_475 ?_
  refine zl_callI C (g' := gX9_order) [.int (xs (i + 1))] (q := 21) (ci := 9) (T := TX9) rfl rfl okL_56 ⟨_, rfl, by decide⟩ rfl (Nat.le_of_ble_eq_true rfl) eL_476 (zm_Call.mono k1 (fun r2 w2 u2 k2 => ?_))
  exact zl_eq C eL_479 (tgt := 1085) (by decide) k2.1 (K u2 k2.2.2)
theorem zc_10 (C : zl_At p s m meth c b L xs D c1 c2) (hL : L ≤ 2048) (hi : i + 4 ≤ L) (K : ∀ u, zInv u → zl_Z p l e s m below meth c b D c1 c2 ad 1085 (nI i) [] u) (I : zInv mem) : zl_Z p l e s m below meth c b D c1 c2 ad 484 (nI i) [] mem := by
  obtain ⟨w0, h0, n0, k0, dy0, t0, mv0, r0, J⟩ := I
  refine zl_a1 C eL_484 ?_
  refine zl_rd C hL 1 (v := 1) (by decide) rfl (by omega) rfl eL_485 eL_486 eL_487 eL_488 eL_489 ?_
  refine zl_callI C (g' := gX8_keeps) [.int (xs (i + 1))] (q := 0) (ci := 8) (T := TX8) rfl rfl okL_57 ⟨_, rfl, by decide⟩ rfl (Nat.le_of_ble_eq_true rfl) eL_490 (zm_Call.mono (st_keeps J (xs (i + 1))) (fun r w u k1 => ?_))
  refine zl_a2 C eL_493 ?_
  refine zl_rd C hL 1 (v := 1) (by decide) rfl (by omega) rfl eL_494 eL_495 eL_496 eL_497 eL_498 ?_
  refine zl_callI C (g' := gX9_keeps) [.int (xs (i + 1))] (q := 21) (ci := 9) (T := TX9) rfl rfl okL_60 ⟨_, rfl, by decide⟩ rfl (Nat.le_of_ble_eq_true rfl) eL_499 (zm_Call.mono k1 (fun r2 w2 u2 k2 => ?_))
  exact zl_eq C eL_502 (tgt := 1085) (by decide) k2.1 (K u2 k2.2.2)
theorem zc_11 (C : zl_At p s m meth c b L xs D c1 c2) (hL : L ≤ 2048) (hi : i + 4 ≤ L) (K : ∀ u, zInv u → zl_Z p l e s m below meth c b D c1 c2 ad 1085 (nI i) [] u) (I : zInv mem) : zl_Z p l e s m below meth c b D c1 c2 ad 507 (nI i) [] mem := by
  obtain ⟨w0, h0, n0, k0, dy0, t0, mv0, r0, J⟩ := I
  refine zl_a1 C eL_507 ?_
  refine zl_rd C hL 1 (v := 1) (by decide) rfl (by omega) rfl eL_508 eL_509 eL_510 eL_511 eL_512 ?_
  refine zl_callI C (g' := gX8_kept) [.int (xs (i + 1))] (q := 0) (ci := 8) (T := TX8) rfl rfl okL_61 ⟨_, rfl, by decide⟩ rfl (Nat.le_of_ble_eq_true rfl) eL_513 (zm_Call.mono (st_kept J (xs (i + 1))) (fun r w u k1 => ?_))
  refine zl_a2 C eL_516 ?_
  refine zl_rd C hL 1 (v := 1) (by decide) rfl (by omega) rfl eL_517 eL_518 eL_519 eL_520 eL_521 ?_
  refine zl_callI C (g' := gX9_kept) [.int (xs (i + 1))] (q := 21) (ci := 9) (T := TX9) rfl rfl okL_64 ⟨_, rfl, by decide⟩ rfl (Nat.le_of_ble_eq_true rfl) eL_522 (zm_Call.mono k1 (fun r2 w2 u2 k2 => ?_))
  exact zl_eq C eL_525 (tgt := 1085) (by decide) k2.1 (K u2 k2.2.2)
theorem zc_12 (C : zl_At p s m meth c b L xs D c1 c2) (hL : L ≤ 2048) (hi : i + 4 ≤ L) (K : ∀ u, zInv u → zl_Z p l e s m below meth c b D c1 c2 ad 1085 (nI i) [] u) (I : zInv mem) : zl_Z p l e s m below meth c b D c1 c2 ad 530 (nI i) [] mem := by
  obtain ⟨w0, h0, n0, k0, dy0, t0, mv0, r0, J⟩ := I
  refine zl_a1 C eL_530 ?_
  refine zl_rd C hL 1 (v := 1) (by decide) rfl (by omega) rfl eL_531 eL_532 eL_533 eL_534 eL_535 ?_
  refine zl_callI C (g' := gX8_keeper) [.int (xs (i + 1))] (q := 0) (ci := 8) (T := TX8) rfl rfl okL_65 ⟨_, rfl, by decide⟩ rfl (Nat.le_of_ble_eq_true rfl) eL_536 (zm_Call.mono (st_keeper J (xs (i + 1))) (fun r w u k1 => ?_))
  refine zl_a2 C eL_539 ?_
  refine zl_rd C hL 1 (v := 1) (by decide) rfl (by omega) rfl eL_540 eL_541 eL_542 eL_543 eL_544 ?_
  refine zl_callI C (g' := gX9_keeper) [.int (xs (i + 1))] (q := 21) (ci := 9) (T := TX9) rfl rfl okL_68 ⟨_, rfl, by decide⟩ rfl (Nat.le_of_ble_eq_true rfl) eL_545 (zm_Call.mono k1 (fun r2 w2 u2 k2 => ?_))
  exact zl_eq C eL_548 (tgt := 1085) (by decide) k2.1 (K u2 k2.2.2)
theorem zc_13 (C : zl_At p s m meth c b L xs D c1 c2) (hL : L ≤ 2048) (hi : i + 4 ≤ L) (K : ∀ u, zInv u → zl_Z p l e s m below meth c b D c1 c2 ad 1085 (nI i) [] u) (I : zInv mem) : zl_Z p l e s m below meth c b D c1 c2 ad 553 (nI i) [] mem := by
  obtain ⟨w0, h0, n0, k0, dy0, t0, mv0, r0, J⟩ := I
  refine zl_a1 C eL_553 ?_
  refine zl_rd C hL 1 (v := 1) (by decide) rfl (by omega) rfl eL_554 eL_555 eL_556 eL_557 eL_558 ?_
  refine zl_callI C (g' := gX8_go) [.int (xs (i + 1))] (q := 0) (ci := 8) (T := TX8) rfl rfl okL_69 ⟨_, rfl, by decide⟩ rfl (Nat.le_of_ble_eq_true rfl) eL_559 (zm_Call.mono (st_go J (xs (i + 1))) (fun r w u k1 => ?_))
  refine zl_a2 C eL_562 ?_
  refine zl_rd C hL 1 (v := 1) (by decide) rfl (by omega) rfl eL_563 eL_564 eL_565 eL_566 eL_567 ?_
  refine zl_callI C (g' := gX9_go) [.int (xs (i + 1))] (q := 21) (ci := 9) (T := TX9) rfl rfl okL_72 ⟨_, rfl, by decide⟩ rfl (Nat.le_of_ble_eq_true rfl) eL_568 (zm_Call.mono k1 (fun r2 w2 u2 k2 => ?_))
  exact zl_eq C eL_571 (tgt := 1085) (by decide) k2.1 (K u2 k2.2.2)
theorem zc_14 (C : zl_At p s m meth c b L xs D c1 c2) (hL : L ≤ 2048) (hi : i + 4 ≤ L) (K : ∀ u, zInv u → zl_Z p l e s m below meth c b D c1 c2 ad 1085 (nI i) [] u) (I : zInv mem) : zl_Z p l e s m below meth c b D c1 c2 ad 576 (nI i) [] mem := by
  obtain ⟨w0, h0, n0, k0, dy0, t0, mv0, r0, J⟩ := I
  refine zl_a1 C eL_576 ?_
  refine zl_callI C (g' := gX8_least) [] (q := 0) (ci := 8) (T := TX8) rfl rfl okL_73 ⟨_, rfl, by decide⟩ rfl (Nat.le_of_ble_eq_true rfl) eL_577 (zm_Call.mono (st_least J ) (fun r w u k1 => ?_))
  refine zl_a2 C eL_580 ?_
  refine zl_callI C (g' := gX9_least) [] (q := 21) (ci := 9) (T := TX9) rfl rfl okL_76 ⟨_, rfl, by decide⟩ rfl (Nat.le_of_ble_eq_true rfl) eL_581 (zm_Call.mono k1 (fun r2 w2 u2 k2 => ?_))
  exact zl_eq C eL_584 (tgt := 1085) (by decide) k2.1 (K u2 k2.2.2)
theorem zc_15 (C : zl_At p s m meth c b L xs D c1 c2) (hL : L ≤ 2048) (hi : i + 4 ≤ L) (K : ∀ u, zInv u → zl_Z p l e s m below meth c b D c1 c2 ad 1085 (nI i) [] u) (I : zInv mem) : zl_Z p l e s m below meth c b D c1 c2 ad 589 (nI i) [] mem := by
  obtain ⟨w0, h0, n0, k0, dy0, t0, mv0, r0, J⟩ := I
  refine zl_a1 C eL_589 ?_
  refine zl_rd C hL 1 (v := 1) (by decide) rfl (by omega) rfl eL_590 eL_591 eL_592 eL_593 eL_594 ?_
  refine zl_callI C (g' := gX8_mirrored) [.int (xs (i + 1))] (q := 0) (ci := 8) (T := TX8) rfl rfl okL_77 ⟨_, rfl, by decide⟩ rfl (Nat.le_of_ble_eq_true rfl) eL_595 (zm_Call.mono (st_mirrored J (xs (i + 1))) (fun r w u k1 => ?_))
  refine zl_a2 C eL_598 ?_
  refine zl_rd C hL 1 (v := 1) (by decide) rfl (by omega) rfl eL_599 eL_600 eL_601 eL_602 eL_603 ?_
  refine zl_callI C (g' := gX9_mirrored) [.int (xs (i + 1))] (q := 21) (ci := 9) (T := TX9) rfl rfl okL_80 ⟨_, rfl, by decide⟩ rfl (Nat.le_of_ble_eq_true rfl) eL_604 (zm_Call.mono k1 (fun r2 w2 u2 k2 => ?_))
  exact zl_eq C eL_607 (tgt := 1085) (by decide) k2.1 (K u2 k2.2.2)
theorem zc_16 (C : zl_At p s m meth c b L xs D c1 c2) (hL : L ≤ 2048) (hi : i + 4 ≤ L) (K : ∀ u, zInv u → zl_Z p l e s m below meth c b D c1 c2 ad 1085 (nI i) [] u) (I : zInv mem) : zl_Z p l e s m below meth c b D c1 c2 ad 612 (nI i) [] mem := by
  obtain ⟨w0, h0, n0, k0, dy0, t0, mv0, r0, J⟩ := I
  refine zl_a1 C eL_612 ?_
  refine zl_rd C hL 1 (v := 1) (by decide) rfl (by omega) rfl eL_613 eL_614 eL_615 eL_616 eL_617 ?_
  refine zl_callI C (g' := gX8_mirror) [.int (xs (i + 1))] (q := 0) (ci := 8) (T := TX8) rfl rfl okL_81 ⟨_, rfl, by decide⟩ rfl (Nat.le_of_ble_eq_true rfl) eL_618 (zm_Call.mono (st_mirror J (xs (i + 1))) (fun r w u k1 => ?_))
  refine zl_a2 C eL_621 ?_
  refine zl_rd C hL 1 (v := 1) (by decide) rfl (by omega) rfl eL_622 eL_623 eL_624 eL_625 eL_626 ?_
  refine zl_callI C (g' := gX9_mirror) [.int (xs (i + 1))] (q := 21) (ci := 9) (T := TX9) rfl rfl okL_84 ⟨_, rfl, by decide⟩ rfl (Nat.le_of_ble_eq_true rfl) eL_627 (zm_Call.mono k1 (fun r2 w2 u2 k2 => ?_))
  exact zl_eq C eL_630 (tgt := 1085) (by decide) k2.1 (K u2 k2.2.2)
theorem zc_17 (C : zl_At p s m meth c b L xs D c1 c2) (hL : L ≤ 2048) (hi : i + 4 ≤ L) (K : ∀ u, zInv u → zl_Z p l e s m below meth c b D c1 c2 ad 1085 (nI i) [] u) (I : zInv mem) : zl_Z p l e s m below meth c b D c1 c2 ad 635 (nI i) [] mem := by
  obtain ⟨w0, h0, n0, k0, dy0, t0, mv0, r0, J⟩ := I
  refine zl_a1 C eL_635 ?_
  refine zl_callI C (g' := gX8_kind) [] (q := 0) (ci := 8) (T := TX8) rfl rfl okL_85 ⟨_, rfl, by decide⟩ rfl (Nat.le_of_ble_eq_true rfl) eL_636 (zm_Call.mono (st_kind J ) (fun r w u k1 => ?_))
  refine zl_a2 C eL_639 ?_
  refine zl_callI C (g' := gX9_kind) [] (q := 21) (ci := 9) (T := TX9) rfl rfl okL_88 ⟨_, rfl, by decide⟩ rfl (Nat.le_of_ble_eq_true rfl) eL_640 (zm_Call.mono k1 (fun r2 w2 u2 k2 => ?_))
  exact zl_eq C eL_643 (tgt := 1085) (by decide) k2.1 (K u2 k2.2.2)
theorem zc_18 (C : zl_At p s m meth c b L xs D c1 c2) (hL : L ≤ 2048) (hi : i + 4 ≤ L) (K : ∀ u, zInv u → zl_Z p l e s m below meth c b D c1 c2 ad 1085 (nI i) [] u) (I : zInv mem) : zl_Z p l e s m below meth c b D c1 c2 ad 648 (nI i) [] mem := by
  obtain ⟨w0, h0, n0, k0, dy0, t0, mv0, r0, J⟩ := I
  refine zl_a1 C eL_648 ?_
  refine zl_callI C (g' := gX8_paints) [] (q := 0) (ci := 8) (T := TX8) rfl rfl okL_89 ⟨_, rfl, by decide⟩ rfl (Nat.le_of_ble_eq_true rfl) eL_649 (zm_Call.mono (st_paints J ) (fun r w u k1 => ?_))
  refine zl_a2 C eL_652 ?_
  refine zl_callI C (g' := gX9_paints) [] (q := 21) (ci := 9) (T := TX9) rfl rfl okL_92 ⟨_, rfl, by decide⟩ rfl (Nat.le_of_ble_eq_true rfl) eL_653 (zm_Call.mono k1 (fun r2 w2 u2 k2 => ?_))
  exact zl_eq C eL_656 (tgt := 1085) (by decide) k2.1 (K u2 k2.2.2)
theorem zc_19 (C : zl_At p s m meth c b L xs D c1 c2) (hL : L ≤ 2048) (hi : i + 4 ≤ L) (K : ∀ u, zInv u → zl_Z p l e s m below meth c b D c1 c2 ad 1085 (nI i) [] u) (I : zInv mem) : zl_Z p l e s m below meth c b D c1 c2 ad 661 (nI i) [] mem := by
  obtain ⟨w0, h0, n0, k0, dy0, t0, mv0, r0, J⟩ := I
  refine zl_a1 C eL_661 ?_
  refine zl_rd C hL 1 (v := 1) (by decide) rfl (by omega) rfl eL_662 eL_663 eL_664 eL_665 eL_666 ?_
  refine zl_rd C hL 2 (v := 2) (by decide) rfl (by omega) rfl eL_667 eL_668 eL_669 eL_670 eL_671 ?_
  refine zl_callI C (g' := gX8_paint) [.int (xs (i + 1)), .int (xs (i + 2))] (q := 0) (ci := 8) (T := TX8) rfl rfl okL_93 ⟨_, rfl, by decide⟩ rfl (Nat.le_of_ble_eq_true rfl) eL_672 (zm_Call.mono (st_paint J (xs (i + 1)) (xs (i + 2))) (fun r w u k1 => ?_))
  refine zl_a2 C eL_675 ?_
  refine zl_rd C hL 1 (v := 1) (by decide) rfl (by omega) rfl eL_676 eL_677 eL_678 eL_679 eL_680 ?_
  refine zl_rd C hL 2 (v := 2) (by decide) rfl (by omega) rfl eL_681 eL_682 eL_683 eL_684 eL_685 ?_
  refine zl_callI C (g' := gX9_paint) [.int (xs (i + 1)), .int (xs (i + 2))] (q := 21) (ci := 9) (T := TX9) rfl rfl okL_96 ⟨_, rfl, by decide⟩ rfl (Nat.le_of_ble_eq_true rfl) eL_686 (zm_Call.mono k1 (fun r2 w2 u2 k2 => ?_))
  exact zl_eq C eL_689 (tgt := 1085) (by decide) k2.1 (K u2 k2.2.2)
theorem zc_20 (C : zl_At p s m meth c b L xs D c1 c2) (hL : L ≤ 2048) (hi : i + 4 ≤ L) (K : ∀ u, zInv u → zl_Z p l e s m below meth c b D c1 c2 ad 1085 (nI i) [] u) (I : zInv mem) : zl_Z p l e s m below meth c b D c1 c2 ad 694 (nI i) [] mem := by
  obtain ⟨w0, h0, n0, k0, dy0, t0, mv0, r0, J⟩ := I
  refine zl_a1 C eL_694 ?_
  refine zl_rd C hL 1 (v := 1) (by decide) rfl (by omega) rfl eL_695 eL_696 eL_697 eL_698 eL_699 ?_
  refine zl_rd C hL 2 (v := 2) (by decide) rfl (by omega) rfl eL_700 eL_701 eL_702 eL_703 eL_704 ?_
  refine zl_callI C (g' := gX8_keepsBy) [.int (xs (i + 1)), .int (xs (i + 2))] (q := 0) (ci := 8) (T := TX8) rfl rfl okL_97 ⟨_, rfl, by decide⟩ rfl (Nat.le_of_ble_eq_true rfl) eL_705 (zm_Call.mono (st_keepsBy J (xs (i + 1)) (xs (i + 2))) (fun r w u k1 => ?_))
  refine zl_a2 C eL_708 ?_
  refine zl_rd C hL 1 (v := 1) (by decide) rfl (by omega) rfl eL_709 eL_710 eL_711 eL_712 eL_713 ?_
  refine zl_rd C hL 2 (v := 2) (by decide) rfl (by omega) rfl eL_714 eL_715 eL_716 eL_717 eL_718 ?_
  refine zl_callI C (g' := gX9_keepsBy) [.int (xs (i + 1)), .int (xs (i + 2))] (q := 21) (ci := 9) (T := TX9) rfl rfl okL_100 ⟨_, rfl, by decide⟩ rfl (Nat.le_of_ble_eq_true rfl) eL_719 (zm_Call.mono k1 (fun r2 w2 u2 k2 => ?_))
  exact zl_eq C eL_722 (tgt := 1085) (by decide) k2.1 (K u2 k2.2.2)
theorem zc_21 (C : zl_At p s m meth c b L xs D c1 c2) (hL : L ≤ 2048) (hi : i + 4 ≤ L) (K : ∀ u, zInv u → zl_Z p l e s m below meth c b D c1 c2 ad 1085 (nI i) [] u) (I : zInv mem) : zl_Z p l e s m below meth c b D c1 c2 ad 727 (nI i) [] mem := by
  obtain ⟨w0, h0, n0, k0, dy0, t0, mv0, r0, J⟩ := I
  refine zl_a1 C eL_727 ?_
  refine zl_rd C hL 1 (v := 1) (by decide) rfl (by omega) rfl eL_728 eL_729 eL_730 eL_731 eL_732 ?_
  refine zl_callI C (g' := gX8_by) [.int (xs (i + 1))] (q := 0) (ci := 8) (T := TX8) rfl rfl okL_101 ⟨_, rfl, by decide⟩ rfl (Nat.le_of_ble_eq_true rfl) eL_733 (zm_Call.mono (st_by J (xs (i + 1))) (fun r w u k1 => ?_))
  refine zl_a2 C eL_736 ?_
  refine zl_rd C hL 1 (v := 1) (by decide) rfl (by omega) rfl eL_737 eL_738 eL_739 eL_740 eL_741 ?_
  refine zl_callI C (g' := gX9_by) [.int (xs (i + 1))] (q := 21) (ci := 9) (T := TX9) rfl rfl okL_104 ⟨_, rfl, by decide⟩ rfl (Nat.le_of_ble_eq_true rfl) eL_742 (zm_Call.mono k1 (fun r2 w2 u2 k2 => ?_))
  exact zl_eq C eL_745 (tgt := 1085) (by decide) k2.1 (K u2 k2.2.2)
theorem zc_22 (C : zl_At p s m meth c b L xs D c1 c2) (hL : L ≤ 2048) (hi : i + 4 ≤ L) (K : ∀ u, zInv u → zl_Z p l e s m below meth c b D c1 c2 ad 1085 (nI i) [] u) (I : zInv mem) : zl_Z p l e s m below meth c b D c1 c2 ad 750 (nI i) [] mem := by
  obtain ⟨w0, h0, n0, k0, dy0, t0, mv0, r0, J⟩ := I
  refine zl_a1 C eL_750 ?_
  refine zl_callI C (g' := gX8_swaps) [] (q := 0) (ci := 8) (T := TX8) rfl rfl okL_105 ⟨_, rfl, by decide⟩ rfl (Nat.le_of_ble_eq_true rfl) eL_751 (zm_Call.mono (st_swaps J ) (fun r w u k1 => ?_))
  refine zl_a2 C eL_754 ?_
  refine zl_callI C (g' := gX9_swaps) [] (q := 21) (ci := 9) (T := TX9) rfl rfl okL_108 ⟨_, rfl, by decide⟩ rfl (Nat.le_of_ble_eq_true rfl) eL_755 (zm_Call.mono k1 (fun r2 w2 u2 k2 => ?_))
  exact zl_eq C eL_758 (tgt := 1085) (by decide) k2.1 (K u2 k2.2.2)
theorem zc_23 (C : zl_At p s m meth c b L xs D c1 c2) (hL : L ≤ 2048) (hi : i + 4 ≤ L) (K : ∀ u, zInv u → zl_Z p l e s m below meth c b D c1 c2 ad 1085 (nI i) [] u) (I : zInv mem) : zl_Z p l e s m below meth c b D c1 c2 ad 763 (nI i) [] mem := by
  obtain ⟨w0, h0, n0, k0, dy0, t0, mv0, r0, J⟩ := I
  refine zl_a1 C eL_763 ?_
  refine zl_rd C hL 1 (v := 1) (by decide) rfl (by omega) rfl eL_764 eL_765 eL_766 eL_767 eL_768 ?_
  refine zl_callI C (g' := gX8_tell) [.int (xs (i + 1))] (q := 0) (ci := 8) (T := TX8) rfl rfl okL_109 ⟨_, rfl, by decide⟩ rfl (Nat.le_of_ble_eq_true rfl) eL_769 (zm_Call.mono (st_tell J (xs (i + 1))) (fun r w u k1 => ?_))
  refine zl_a2 C eL_772 ?_
  refine zl_rd C hL 1 (v := 1) (by decide) rfl (by omega) rfl eL_773 eL_774 eL_775 eL_776 eL_777 ?_
  refine zl_callI C (g' := gX9_tell) [.int (xs (i + 1))] (q := 21) (ci := 9) (T := TX9) rfl rfl okL_112 ⟨_, rfl, by decide⟩ rfl (Nat.le_of_ble_eq_true rfl) eL_778 (zm_Call.mono k1 (fun r2 w2 u2 k2 => ?_))
  exact zl_eq C eL_781 (tgt := 1085) (by decide) k2.1 (K u2 k2.2.2)
theorem zc_24 (C : zl_At p s m meth c b L xs D c1 c2) (hL : L ≤ 2048) (hi : i + 4 ≤ L) (K : ∀ u, zInv u → zl_Z p l e s m below meth c b D c1 c2 ad 1085 (nI i) [] u) (I : zInv mem) : zl_Z p l e s m below meth c b D c1 c2 ad 786 (nI i) [] mem := by
  obtain ⟨w0, h0, n0, k0, dy0, t0, mv0, r0, J⟩ := I
  refine zl_a1 C eL_786 ?_
  refine zl_callI C (g' := gX8_untell) [] (q := 0) (ci := 8) (T := TX8) rfl rfl okL_113 ⟨_, rfl, by decide⟩ rfl (Nat.le_of_ble_eq_true rfl) eL_787 (zm_Call.mono (st_untell J ) (fun r w u k1 => ?_))
  refine zl_a2 C eL_790 ?_
  refine zl_callI C (g' := gX9_untell) [] (q := 21) (ci := 9) (T := TX9) rfl rfl okL_116 ⟨_, rfl, by decide⟩ rfl (Nat.le_of_ble_eq_true rfl) eL_791 (zm_Call.mono k1 (fun r2 w2 u2 k2 => ?_))
  exact zl_eq C eL_794 (tgt := 1085) (by decide) k2.1 (K u2 k2.2.2)
theorem zc_25 (C : zl_At p s m meth c b L xs D c1 c2) (hL : L ≤ 2048) (hi : i + 4 ≤ L) (K : ∀ u, zInv u → zl_Z p l e s m below meth c b D c1 c2 ad 1085 (nI i) [] u) (I : zInv mem) : zl_Z p l e s m below meth c b D c1 c2 ad 799 (nI i) [] mem := by
  obtain ⟨w0, h0, n0, k0, dy0, t0, mv0, r0, J⟩ := I
  refine zl_a1 C eL_799 ?_
  refine zl_callI C (g' := gX8_together) [] (q := 0) (ci := 8) (T := TX8) rfl rfl okL_117 ⟨_, rfl, by decide⟩ rfl (Nat.le_of_ble_eq_true rfl) eL_800 (zm_Call.mono (st_together J ) (fun r w u k1 => ?_))
  refine zl_a2 C eL_803 ?_
  refine zl_callI C (g' := gX9_together) [] (q := 21) (ci := 9) (T := TX9) rfl rfl okL_120 ⟨_, rfl, by decide⟩ rfl (Nat.le_of_ble_eq_true rfl) eL_804 (zm_Call.mono k1 (fun r2 w2 u2 k2 => ?_))
  exact zl_eq C eL_807 (tgt := 1085) (by decide) k2.1 (K u2 k2.2.2)
theorem zc_26 (C : zl_At p s m meth c b L xs D c1 c2) (hL : L ≤ 2048) (hi : i + 4 ≤ L) (K : ∀ u, zInv u → zl_Z p l e s m below meth c b D c1 c2 ad 1085 (nI i) [] u) (I : zInv mem) : zl_Z p l e s m below meth c b D c1 c2 ad 812 (nI i) [] mem := by
  obtain ⟨w0, h0, n0, k0, dy0, t0, mv0, r0, J⟩ := I
  refine zl_a1 C eL_812 ?_
  refine zl_callI C (g' := gX8_rings) [] (q := 0) (ci := 8) (T := TX8) rfl rfl okL_121 ⟨_, rfl, by decide⟩ rfl (Nat.le_of_ble_eq_true rfl) eL_813 (zm_Call.mono (st_rings J ) (fun r w u k1 => ?_))
  refine zl_a2 C eL_816 ?_
  refine zl_callI C (g' := gX9_rings) [] (q := 21) (ci := 9) (T := TX9) rfl rfl okL_124 ⟨_, rfl, by decide⟩ rfl (Nat.le_of_ble_eq_true rfl) eL_817 (zm_Call.mono k1 (fun r2 w2 u2 k2 => ?_))
  exact zl_eq C eL_820 (tgt := 1085) (by decide) k2.1 (K u2 k2.2.2)
theorem zc_27 (C : zl_At p s m meth c b L xs D c1 c2) (hL : L ≤ 2048) (hi : i + 4 ≤ L) (K : ∀ u, zInv u → zl_Z p l e s m below meth c b D c1 c2 ad 1085 (nI i) [] u) (I : zInv mem) : zl_Z p l e s m below meth c b D c1 c2 ad 825 (nI i) [] mem := by
  obtain ⟨w0, h0, n0, k0, dy0, t0, mv0, r0, J⟩ := I
  refine zl_a1 C eL_825 ?_
  refine zl_rd C hL 1 (v := 1) (by decide) rfl (by omega) rfl eL_826 eL_827 eL_828 eL_829 eL_830 ?_
  refine zl_callI C (g' := gX8_ring) [.int (xs (i + 1))] (q := 0) (ci := 8) (T := TX8) rfl rfl okL_125 ⟨_, rfl, by decide⟩ rfl (Nat.le_of_ble_eq_true rfl) eL_831 (zm_Call.mono (st_ring J (xs (i + 1))) (fun r w u k1 => ?_))
  refine zl_a2 C eL_834 ?_
  refine zl_rd C hL 1 (v := 1) (by decide) rfl (by omega) rfl eL_835 eL_836 eL_837 eL_838 eL_839 ?_
  refine zl_callI C (g' := gX9_ring) [.int (xs (i + 1))] (q := 21) (ci := 9) (T := TX9) rfl rfl okL_128 ⟨_, rfl, by decide⟩ rfl (Nat.le_of_ble_eq_true rfl) eL_840 (zm_Call.mono k1 (fun r2 w2 u2 k2 => ?_))
  exact zl_eq C eL_843 (tgt := 1085) (by decide) k2.1 (K u2 k2.2.2)
theorem zc_28 (C : zl_At p s m meth c b L xs D c1 c2) (hL : L ≤ 2048) (hi : i + 4 ≤ L) (K : ∀ u, zInv u → zl_Z p l e s m below meth c b D c1 c2 ad 1085 (nI i) [] u) (I : zInv mem) : zl_Z p l e s m below meth c b D c1 c2 ad 848 (nI i) [] mem := by
  obtain ⟨w0, h0, n0, k0, dy0, t0, mv0, r0, J⟩ := I
  refine zl_a1 C eL_848 ?_
  refine zl_rd C hL 1 (v := 1) (by decide) rfl (by omega) rfl eL_849 eL_850 eL_851 eL_852 eL_853 ?_
  refine zl_rb C eL_854 eL_857 eL_858 eL_861 ?_
  refine zl_callI C (g' := gX8_mend) [.int (zb (!(decide (xs (i + 1) = 0))))] (q := 0) (ci := 8) (T := TX8) rfl rfl okL_129 ⟨_, rfl, by decide⟩ rfl (Nat.le_of_ble_eq_true rfl) eL_862 (zm_Call.mono (st_mend J (!(decide (xs (i + 1) = 0)))) (fun r w u k1 => ?_))
  refine zl_a2 C eL_865 ?_
  refine zl_rd C hL 1 (v := 1) (by decide) rfl (by omega) rfl eL_866 eL_867 eL_868 eL_869 eL_870 ?_
  refine zl_rb C eL_871 eL_874 eL_875 eL_878 ?_
  refine zl_callI C (g' := gX9_mend) [.int (zb (!(decide (xs (i + 1) = 0))))] (q := 21) (ci := 9) (T := TX9) rfl rfl okL_133 ⟨_, rfl, by decide⟩ rfl (Nat.le_of_ble_eq_true rfl) eL_879 (zm_Call.mono k1 (fun r2 w2 u2 k2 => ?_))
  exact zl_eq C eL_882 (tgt := 1085) (by decide) k2.1 (K u2 k2.2.2)
theorem zc_29 (C : zl_At p s m meth c b L xs D c1 c2) (hL : L ≤ 2048) (hi : i + 4 ≤ L) (K : ∀ u, zInv u → zl_Z p l e s m below meth c b D c1 c2 ad 1085 (nI i) [] u) (I : zInv mem) : zl_Z p l e s m below meth c b D c1 c2 ad 887 (nI i) [] mem := by
  obtain ⟨w0, h0, n0, k0, dy0, t0, mv0, r0, J⟩ := I
  refine zl_a1 C eL_887 ?_
  refine zl_rd C hL 1 (v := 1) (by decide) rfl (by omega) rfl eL_888 eL_889 eL_890 eL_891 eL_892 ?_
  refine zl_callI C (g' := gX8_sure) [.int (xs (i + 1))] (q := 0) (ci := 8) (T := TX8) rfl rfl okL_134 ⟨_, rfl, by decide⟩ rfl (Nat.le_of_ble_eq_true rfl) eL_893 (zm_Call.mono (st_sure J (xs (i + 1))) (fun r w u k1 => ?_))
  refine zl_a2 C eL_896 ?_
  refine zl_rd C hL 1 (v := 1) (by decide) rfl (by omega) rfl eL_897 eL_898 eL_899 eL_900 eL_901 ?_
  refine zl_callI C (g' := gX9_sure) [.int (xs (i + 1))] (q := 21) (ci := 9) (T := TX9) rfl rfl okL_137 ⟨_, rfl, by decide⟩ rfl (Nat.le_of_ble_eq_true rfl) eL_902 (zm_Call.mono k1 (fun r2 w2 u2 k2 => ?_))
  exact zl_eq C eL_905 (tgt := 1085) (by decide) k2.1 (K u2 k2.2.2)
theorem zc_30 (C : zl_At p s m meth c b L xs D c1 c2) (hL : L ≤ 2048) (hi : i + 4 ≤ L) (K : ∀ u, zInv u → zl_Z p l e s m below meth c b D c1 c2 ad 1085 (nI i) [] u) (I : zInv mem) : zl_Z p l e s m below meth c b D c1 c2 ad 910 (nI i) [] mem := by
  obtain ⟨w0, h0, n0, k0, dy0, t0, mv0, r0, J⟩ := I
  refine zl_a1 C eL_910 ?_
  refine zl_callI C (g' := gX8_torn) [] (q := 0) (ci := 8) (T := TX8) rfl rfl okL_138 ⟨_, rfl, by decide⟩ rfl (Nat.le_of_ble_eq_true rfl) eL_911 (zm_Call.mono (st_torn J ) (fun r w u k1 => ?_))
  refine zl_a2 C eL_914 ?_
  refine zl_callI C (g' := gX9_torn) [] (q := 21) (ci := 9) (T := TX9) rfl rfl okL_141 ⟨_, rfl, by decide⟩ rfl (Nat.le_of_ble_eq_true rfl) eL_915 (zm_Call.mono k1 (fun r2 w2 u2 k2 => ?_))
  exact zl_eq C eL_918 (tgt := 1085) (by decide) k2.1 (K u2 k2.2.2)
theorem zc_31 (C : zl_At p s m meth c b L xs D c1 c2) (hL : L ≤ 2048) (hi : i + 4 ≤ L) (K : ∀ u, zInv u → zl_Z p l e s m below meth c b D c1 c2 ad 1085 (nI i) [] u) (I : zInv mem) : zl_Z p l e s m below meth c b D c1 c2 ad 923 (nI i) [] mem := by
  obtain ⟨w0, h0, n0, k0, dy0, t0, mv0, r0, J⟩ := I
  refine zl_a1 C eL_923 ?_
  refine zl_callL C (g' := gX8_papers) [] (q := 0) (ci := 8) (T := TX8) rfl rfl okL_142 rfl rfl (Nat.le_of_ble_eq_true rfl) eL_924 (zm_Call.mono (st_papers J ) (fun r w u k1 => ?_))
  refine zl_a2 C eL_927 ?_
  refine zl_callL C (g' := gX9_papers) [] (q := 21) (ci := 9) (T := TX9) rfl rfl okL_146 rfl rfl (Nat.le_of_ble_eq_true rfl) eL_928 (zm_Call.mono k1 (fun r2 w2 u2 k2 => ?_))
  exact zl_leq C eL_931 eL_932 (tgt := 1085) (by decide) k2.2.1 (K u2 k2.2.2)
theorem zc_32 (C : zl_At p s m meth c b L xs D c1 c2) (hL : L ≤ 2048) (hi : i + 4 ≤ L) (K : ∀ u, zInv u → zl_Z p l e s m below meth c b D c1 c2 ad 1085 (nI i) [] u) (I : zInv mem) : zl_Z p l e s m below meth c b D c1 c2 ad 937 (nI i) [] mem := by
  obtain ⟨w0, h0, n0, k0, dy0, t0, mv0, r0, J⟩ := I
  refine zl_a1 C eL_937 ?_
  refine zl_callL C (g' := gX8_upTo) [] (q := 0) (ci := 8) (T := TX8) rfl rfl okL_147 rfl rfl (Nat.le_of_ble_eq_true rfl) eL_938 (zm_Call.mono (st_upTo J ) (fun r w u k1 => ?_))
  refine zl_a2 C eL_941 ?_
  refine zl_callL C (g' := gX9_upTo) [] (q := 21) (ci := 9) (T := TX9) rfl rfl okL_150 rfl rfl (Nat.le_of_ble_eq_true rfl) eL_942 (zm_Call.mono k1 (fun r2 w2 u2 k2 => ?_))
  exact zl_leq C eL_945 eL_946 (tgt := 1085) (by decide) k2.2.1 (K u2 k2.2.2)
theorem zc_33 (C : zl_At p s m meth c b L xs D c1 c2) (hL : L ≤ 2048) (hi : i + 4 ≤ L) (K : ∀ u, zInv u → zl_Z p l e s m below meth c b D c1 c2 ad 1085 (nI i) [] u) (I : zInv mem) : zl_Z p l e s m below meth c b D c1 c2 ad 951 (nI i) [] mem := by
  obtain ⟨w0, h0, n0, k0, dy0, t0, mv0, r0, J⟩ := I
  refine zl_a1 C eL_951 ?_
  refine zl_callI C (g' := gX8_like) [] (q := 0) (ci := 8) (T := TX8) rfl rfl okL_151 ⟨_, rfl, by decide⟩ rfl (Nat.le_of_ble_eq_true rfl) eL_952 (zm_Call.mono (st_like J ) (fun r w u k1 => ?_))
  refine zl_a2 C eL_955 ?_
  refine zl_callI C (g' := gX9_like) [] (q := 21) (ci := 9) (T := TX9) rfl rfl okL_154 ⟨_, rfl, by decide⟩ rfl (Nat.le_of_ble_eq_true rfl) eL_956 (zm_Call.mono k1 (fun r2 w2 u2 k2 => ?_))
  exact zl_eq C eL_959 (tgt := 1085) (by decide) k2.1 (K u2 k2.2.2)
theorem zc_34 (C : zl_At p s m meth c b L xs D c1 c2) (hL : L ≤ 2048) (hi : i + 4 ≤ L) (K : ∀ u, zInv u → zl_Z p l e s m below meth c b D c1 c2 ad 1085 (nI i) [] u) (I : zInv mem) : zl_Z p l e s m below meth c b D c1 c2 ad 964 (nI i) [] mem := by
  obtain ⟨w0, h0, n0, k0, dy0, t0, mv0, r0, J⟩ := I
  refine zl_a1 C eL_964 ?_
  refine zl_rd C hL 1 (v := 1) (by decide) rfl (by omega) rfl eL_965 eL_966 eL_967 eL_968 eL_969 ?_
  refine zl_callI C (g' := gX8_first) [.int (xs (i + 1))] (q := 0) (ci := 8) (T := TX8) rfl rfl okL_155 ⟨_, rfl, by decide⟩ rfl (Nat.le_of_ble_eq_true rfl) eL_970 (zm_Call.mono (st_first J (xs (i + 1))) (fun r w u k1 => ?_))
  refine zl_a2 C eL_973 ?_
  refine zl_rd C hL 1 (v := 1) (by decide) rfl (by omega) rfl eL_974 eL_975 eL_976 eL_977 eL_978 ?_
  refine zl_callI C (g' := gX9_first) [.int (xs (i + 1))] (q := 21) (ci := 9) (T := TX9) rfl rfl okL_158 ⟨_, rfl, by decide⟩ rfl (Nat.le_of_ble_eq_true rfl) eL_979 (zm_Call.mono k1 (fun r2 w2 u2 k2 => ?_))
  exact zl_eq C eL_982 (tgt := 1085) (by decide) k2.1 (K u2 k2.2.2)
theorem zc_35 (C : zl_At p s m meth c b L xs D c1 c2) (hL : L ≤ 2048) (hi : i + 4 ≤ L) (K : ∀ u, zInv u → zl_Z p l e s m below meth c b D c1 c2 ad 1085 (nI i) [] u) (I : zInv mem) : zl_Z p l e s m below meth c b D c1 c2 ad 987 (nI i) [] mem := by
  obtain ⟨w0, h0, n0, k0, dy0, t0, mv0, r0, J⟩ := I
  refine zl_a1 C eL_987 ?_
  refine zl_callI C (g' := gX8_toFirst) [] (q := 0) (ci := 8) (T := TX8) rfl rfl okL_159 ⟨_, rfl, by decide⟩ rfl (Nat.le_of_ble_eq_true rfl) eL_988 (zm_Call.mono (st_toFirst J ) (fun r w u k1 => ?_))
  refine zl_a2 C eL_991 ?_
  refine zl_callI C (g' := gX9_toFirst) [] (q := 21) (ci := 9) (T := TX9) rfl rfl okL_162 ⟨_, rfl, by decide⟩ rfl (Nat.le_of_ble_eq_true rfl) eL_992 (zm_Call.mono k1 (fun r2 w2 u2 k2 => ?_))
  exact zl_eq C eL_995 (tgt := 1085) (by decide) k2.1 (K u2 k2.2.2)
theorem zc_36 (C : zl_At p s m meth c b L xs D c1 c2) (hL : L ≤ 2048) (hi : i + 4 ≤ L) (K : ∀ u, zInv u → zl_Z p l e s m below meth c b D c1 c2 ad 1085 (nI i) [] u) (I : zInv mem) : zl_Z p l e s m below meth c b D c1 c2 ad 1000 (nI i) [] mem := by
  obtain ⟨w0, h0, n0, k0, dy0, t0, mv0, r0, J⟩ := I
  refine zl_a1 C eL_1000 ?_
  refine zl_rd C hL 1 (v := 1) (by decide) rfl (by omega) rfl eL_1001 eL_1002 eL_1003 eL_1004 eL_1005 ?_
  refine zl_rb C eL_1006 eL_1009 eL_1010 eL_1013 ?_
  refine zl_callI C (g' := gX8_pieces) [.int (zb (!(decide (xs (i + 1) = 0))))] (q := 0) (ci := 8) (T := TX8) rfl rfl okL_163 ⟨_, rfl, by decide⟩ rfl (Nat.le_of_ble_eq_true rfl) eL_1014 (zm_Call.mono (st_pieces J (!(decide (xs (i + 1) = 0)))) (fun r w u k1 => ?_))
  refine zl_a2 C eL_1017 ?_
  refine zl_rd C hL 1 (v := 1) (by decide) rfl (by omega) rfl eL_1018 eL_1019 eL_1020 eL_1021 eL_1022 ?_
  refine zl_rb C eL_1023 eL_1026 eL_1027 eL_1030 ?_
  refine zl_callI C (g' := gX9_pieces) [.int (zb (!(decide (xs (i + 1) = 0))))] (q := 21) (ci := 9) (T := TX9) rfl rfl okL_166 ⟨_, rfl, by decide⟩ rfl (Nat.le_of_ble_eq_true rfl) eL_1031 (zm_Call.mono k1 (fun r2 w2 u2 k2 => ?_))
  exact zl_eq C eL_1034 (tgt := 1085) (by decide) k2.1 (K u2 k2.2.2)
theorem zc_37 (C : zl_At p s m meth c b L xs D c1 c2) (hL : L ≤ 2048) (hi : i + 4 ≤ L) (K : ∀ u, zInv u → zl_Z p l e s m below meth c b D c1 c2 ad 1085 (nI i) [] u) (I : zInv mem) : zl_Z p l e s m below meth c b D c1 c2 ad 1039 (nI i) [] mem := by
  obtain ⟨w0, h0, n0, k0, dy0, t0, mv0, r0, J⟩ := I
  refine zl_a1 C eL_1039 ?_
  refine zl_rd C hL 1 (v := 1) (by decide) rfl (by omega) rfl eL_1040 eL_1041 eL_1042 eL_1043 eL_1044 ?_
  refine zl_callI C (g' := gX8_piece) [.int (xs (i + 1))] (q := 0) (ci := 8) (T := TX8) rfl rfl okL_167 ⟨_, rfl, by decide⟩ rfl (Nat.le_of_ble_eq_true rfl) eL_1045 (zm_Call.mono (st_piece J (xs (i + 1))) (fun r w u k1 => ?_))
  refine zl_a2 C eL_1048 ?_
  refine zl_rd C hL 1 (v := 1) (by decide) rfl (by omega) rfl eL_1049 eL_1050 eL_1051 eL_1052 eL_1053 ?_
  refine zl_callI C (g' := gX9_piece) [.int (xs (i + 1))] (q := 21) (ci := 9) (T := TX9) rfl rfl okL_170 ⟨_, rfl, by decide⟩ rfl (Nat.le_of_ble_eq_true rfl) eL_1054 (zm_Call.mono k1 (fun r2 w2 u2 k2 => ?_))
  exact zl_eq C eL_1057 (tgt := 1085) (by decide) k2.1 (K u2 k2.2.2)
theorem zc_38 (C : zl_At p s m meth c b L xs D c1 c2) (hL : L ≤ 2048) (hi : i + 4 ≤ L) (K : ∀ u, zInv u → zl_Z p l e s m below meth c b D c1 c2 ad 1085 (nI i) [] u) (I : zInv mem) : zl_Z p l e s m below meth c b D c1 c2 ad 1062 (nI i) [] mem := by
  obtain ⟨w0, h0, n0, k0, dy0, t0, mv0, r0, J⟩ := I
  refine zl_a1 C eL_1062 ?_
  refine zl_rd C hL 1 (v := 1) (by decide) rfl (by omega) rfl eL_1063 eL_1064 eL_1065 eL_1066 eL_1067 ?_
  refine zl_callI C (g' := gX8_count) [.int (xs (i + 1))] (q := 0) (ci := 8) (T := TX8) rfl rfl okL_171 ⟨_, rfl, by decide⟩ rfl (Nat.le_of_ble_eq_true rfl) eL_1068 (zm_Call.mono (st_count J (xs (i + 1))) (fun r w u k1 => ?_))
  refine zl_a2 C eL_1071 ?_
  refine zl_rd C hL 1 (v := 1) (by decide) rfl (by omega) rfl eL_1072 eL_1073 eL_1074 eL_1075 eL_1076 ?_
  refine zl_callI C (g' := gX9_count) [.int (xs (i + 1))] (q := 21) (ci := 9) (T := TX9) rfl rfl okL_174 ⟨_, rfl, by decide⟩ rfl (Nat.le_of_ble_eq_true rfl) eL_1077 (zm_Call.mono k1 (fun r2 w2 u2 k2 => ?_))
  exact zl_eq C eL_1080 (tgt := 1085) (by decide) k2.1 (K u2 k2.2.2)
end ZLCASE
