/-! the 46 calls -/
section LCS
variable {p : Program} {e : Env} {s : State} {m : MethodId} {below : List Frame} {meth : Method} {c : Code} {b L nc ns i : Nat} {xs : Nat → Int32} {x : jX} {ay : Nat → Nat} {M N : jM} {z : qZ}
theorem v_0 (C : lCx p s m meth c b L xs x nc ns) (hi : i + 6 ≤ L) (hc : cI M z) (hm : mI N z) (kk : ∀ z' M' N', cI M' z' → mI N' z' → LW p e s m below meth c b nc ns x ay 1533 (lL x ay b i) [] M' N') : LW p e s m below meth c b nc ns x ay 232 (lL x ay b i) [] M N := by
  obtain ⟨z', r, h1, h2⟩ := p_status (x := x) (y := jy x ay)  hc hm
  refine l_aload_n C (j := 1) (pc := 232) dL_law_232 rfl rfl ?_
  refine l_callC C (As := []) (st := []) (pc := 233) dL_law_233 gm_X11_status rfl ml_L_13 rfl (Nat.le_of_ble_eq_true rfl) h1 (fun M1 r1 hr1 => ?_)
  obtain ⟨v1, rfl, rfl, hc1⟩ := hr1
  refine l_aload_n C (j := 2) (pc := 236) dL_law_236 rfl rfl ?_
  refine l_callM C (As := []) (st := [.int v1]) (pc := 237) dL_law_237 gm_X12_status rfl ml_L_17 rfl (Nat.le_of_ble_eq_true rfl) h2 (fun N1 r2 hr2 => ?_)
  obtain ⟨v2, rfl, rfl, hm1⟩ := hr2
  exact l_same C (i := i) (pc := 240) dL_law_240 (by decide) (kk _ _ _ hc1 hm1)
theorem v_1 (C : lCx p s m meth c b L xs x nc ns) (hi : i + 6 ≤ L) (hc : cI M z) (hm : mI N z) (kk : ∀ z' M' N', cI M' z' → mI N' z' → LW p e s m below meth c b nc ns x ay 1533 (lL x ay b i) [] M' N') : LW p e s m below meth c b nc ns x ay 245 (lL x ay b i) [] M N := by
  obtain ⟨z', r, h1, h2⟩ := p_top (x := x) (y := jy x ay)  hc hm
  refine l_aload_n C (j := 1) (pc := 245) dL_law_245 rfl rfl ?_
  refine l_callC C (As := []) (st := []) (pc := 246) dL_law_246 gm_X11_top rfl ml_L_18 rfl (Nat.le_of_ble_eq_true rfl) h1 (fun M1 r1 hr1 => ?_)
  obtain ⟨v1, rfl, rfl, hc1⟩ := hr1
  refine l_aload_n C (j := 2) (pc := 249) dL_law_249 rfl rfl ?_
  refine l_callM C (As := []) (st := [.long v1]) (pc := 250) dL_law_250 gm_X12_top rfl ml_L_22 rfl (Nat.le_of_ble_eq_true rfl) h2 (fun N1 r2 hr2 => ?_)
  obtain ⟨v2, rfl, rfl, hm1⟩ := hr2
  exact l_sameL C (pc := 253) dL_law_253 dL_law_254 (by decide) (kk _ _ _ hc1 hm1)
theorem v_2 (C : lCx p s m meth c b L xs x nc ns) (hi : i + 6 ≤ L) (hc : cI M z) (hm : mI N z) (kk : ∀ z' M' N', cI M' z' → mI N' z' → LW p e s m below meth c b nc ns x ay 1533 (lL x ay b i) [] M' N') : LW p e s m below meth c b nc ns x ay 259 (lL x ay b i) [] M N := by
  obtain ⟨z', r, h1, h2⟩ := p_bottom (x := x) (y := jy x ay)  hc hm
  refine l_aload_n C (j := 1) (pc := 259) dL_law_259 rfl rfl ?_
  refine l_callC C (As := []) (st := []) (pc := 260) dL_law_260 gm_X11_bottom rfl ml_L_23 rfl (Nat.le_of_ble_eq_true rfl) h1 (fun M1 r1 hr1 => ?_)
  obtain ⟨v1, rfl, rfl, hc1⟩ := hr1
  refine l_aload_n C (j := 2) (pc := 263) dL_law_263 rfl rfl ?_
  refine l_callM C (As := []) (st := [.long v1]) (pc := 264) dL_law_264 gm_X12_bottom rfl ml_L_26 rfl (Nat.le_of_ble_eq_true rfl) h2 (fun N1 r2 hr2 => ?_)
  obtain ⟨v2, rfl, rfl, hm1⟩ := hr2
  exact l_sameL C (pc := 267) dL_law_267 dL_law_268 (by decide) (kk _ _ _ hc1 hm1)
theorem v_3 (C : lCx p s m meth c b L xs x nc ns) (hi : i + 6 ≤ L) (hc : cI M z) (hm : mI N z) (kk : ∀ z' M' N', cI M' z' → mI N' z' → LW p e s m below meth c b nc ns x ay 1533 (lL x ay b i) [] M' N') : LW p e s m below meth c b nc ns x ay 273 (lL x ay b i) [] M N := by
  obtain ⟨z', r, h1, h2⟩ := p_tray (x := x) (y := jy x ay) (xs (i + 1)) (xs (i + 2)) (xs (i + 3)) hc hm
  refine l_aload_n C (j := 1) (pc := 273) dL_law_273 rfl rfl ?_
  refine l_arg C (pc := 274) (j := 1) dL_law_274 dL_law_275 dL_law_276 dL_law_277 dL_law_278 rfl (by omega) ?_
  refine l_arg C (pc := 279) (j := 2) dL_law_279 dL_law_280 dL_law_281 dL_law_282 dL_law_283 rfl (by omega) ?_
  refine l_arg C (pc := 284) (j := 3) dL_law_284 dL_law_285 dL_law_286 dL_law_287 dL_law_288 rfl (by omega) ?_
  refine l_callC C (As := [.int (xs (i + 1)), .int (xs (i + 2)), .int (xs (i + 3))]) (st := []) (pc := 289) dL_law_289 gm_X11_tray rfl ml_L_27 rfl (Nat.le_of_ble_eq_true rfl) h1 (fun M1 r1 hr1 => ?_)
  obtain ⟨v1, rfl, rfl, hc1⟩ := hr1
  refine l_aload_n C (j := 2) (pc := 292) dL_law_292 rfl rfl ?_
  refine l_arg C (pc := 293) (j := 1) dL_law_293 dL_law_294 dL_law_295 dL_law_296 dL_law_297 rfl (by omega) ?_
  refine l_arg C (pc := 298) (j := 2) dL_law_298 dL_law_299 dL_law_300 dL_law_301 dL_law_302 rfl (by omega) ?_
  refine l_arg C (pc := 303) (j := 3) dL_law_303 dL_law_304 dL_law_305 dL_law_306 dL_law_307 rfl (by omega) ?_
  refine l_callM C (As := [.int (xs (i + 1)), .int (xs (i + 2)), .int (xs (i + 3))]) (st := [.int (jb v1)]) (pc := 308) dL_law_308 gm_X12_tray rfl ml_L_31 rfl (Nat.le_of_ble_eq_true rfl) h2 (fun N1 r2 hr2 => ?_)
  obtain ⟨v2, rfl, rfl, hm1⟩ := hr2
  exact l_same C (i := i) (pc := 311) dL_law_311 (by decide) (kk _ _ _ hc1 hm1)
theorem v_4 (C : lCx p s m meth c b L xs x nc ns) (hi : i + 6 ≤ L) (hc : cI M z) (hm : mI N z) (kk : ∀ z' M' N', cI M' z' → mI N' z' → LW p e s m below meth c b nc ns x ay 1533 (lL x ay b i) [] M' N') : LW p e s m below meth c b nc ns x ay 316 (lL x ay b i) [] M N := by
  obtain ⟨z', r, h1, h2⟩ := p_write (x := x) (y := jy x ay) (xs (i + 1)) (xs (i + 2)) (((((xs (i + 3)).toInt64) <<< ((32 : Int32).toInt64 &&& 63)) ||| ((xs (i + 4)).toInt64 &&& (4294967295 : Int64)))) hc hm
  refine l_aload_n C (j := 1) (pc := 316) dL_law_316 rfl rfl ?_
  refine l_arg C (pc := 317) (j := 1) dL_law_317 dL_law_318 dL_law_319 dL_law_320 dL_law_321 rfl (by omega) ?_
  refine l_arg C (pc := 322) (j := 2) dL_law_322 dL_law_323 dL_law_324 dL_law_325 dL_law_326 rfl (by omega) ?_
  refine l_arg C (pc := 327) (j := 3) dL_law_327 dL_law_328 dL_law_329 dL_law_330 dL_law_331 rfl (by omega) ?_
  refine l_i2l C (pc := 332) dL_law_332 ?_
  refine l_bipush C (pc := 333) (v := 32) dL_law_333 rfl ?_
  refine l_lshl C (pc := 335) dL_law_335 ?_
  refine l_arg C (pc := 336) (j := 4) dL_law_336 dL_law_337 dL_law_338 dL_law_339 dL_law_340 rfl (by omega) ?_
  refine l_i2l C (pc := 341) dL_law_341 ?_
  refine l_ldc2 C (pc := 342) (v := 4294967295) dL_law_342 kl_L_32 ?_
  refine l_land C (pc := 345) dL_law_345 ?_
  refine l_lor C (pc := 346) dL_law_346 ?_
  refine l_callC C (As := [.int (xs (i + 1)), .int (xs (i + 2)), .long (((((xs (i + 3)).toInt64) <<< ((32 : Int32).toInt64 &&& 63)) ||| ((xs (i + 4)).toInt64 &&& (4294967295 : Int64))))]) (st := []) (pc := 347) dL_law_347 gm_X11_write rfl ml_L_34 rfl (Nat.le_of_ble_eq_true rfl) h1 (fun M1 r1 hr1 => ?_)
  obtain ⟨v1, rfl, rfl, hc1⟩ := hr1
  refine l_aload_n C (j := 2) (pc := 350) dL_law_350 rfl rfl ?_
  refine l_arg C (pc := 351) (j := 1) dL_law_351 dL_law_352 dL_law_353 dL_law_354 dL_law_355 rfl (by omega) ?_
  refine l_arg C (pc := 356) (j := 2) dL_law_356 dL_law_357 dL_law_358 dL_law_359 dL_law_360 rfl (by omega) ?_
  refine l_arg C (pc := 361) (j := 3) dL_law_361 dL_law_362 dL_law_363 dL_law_364 dL_law_365 rfl (by omega) ?_
  refine l_i2l C (pc := 366) dL_law_366 ?_
  refine l_bipush C (pc := 367) (v := 32) dL_law_367 rfl ?_
  refine l_lshl C (pc := 369) dL_law_369 ?_
  refine l_arg C (pc := 370) (j := 4) dL_law_370 dL_law_371 dL_law_372 dL_law_373 dL_law_374 rfl (by omega) ?_
  refine l_i2l C (pc := 375) dL_law_375 ?_
  refine l_ldc2 C (pc := 376) (v := 4294967295) dL_law_376 kl_L_32 ?_
  refine l_land C (pc := 379) dL_law_379 ?_
  refine l_lor C (pc := 380) dL_law_380 ?_
  refine l_callM C (As := [.int (xs (i + 1)), .int (xs (i + 2)), .long (((((xs (i + 3)).toInt64) <<< ((32 : Int32).toInt64 &&& 63)) ||| ((xs (i + 4)).toInt64 &&& (4294967295 : Int64))))]) (st := [.int (jb v1)]) (pc := 381) dL_law_381 gm_X12_write rfl ml_L_38 rfl (Nat.le_of_ble_eq_true rfl) h2 (fun N1 r2 hr2 => ?_)
  obtain ⟨v2, rfl, rfl, hm1⟩ := hr2
  exact l_same C (i := i) (pc := 384) dL_law_384 (by decide) (kk _ _ _ hc1 hm1)
theorem v_5 (C : lCx p s m meth c b L xs x nc ns) (hi : i + 6 ≤ L) (hc : cI M z) (hm : mI N z) (kk : ∀ z' M' N', cI M' z' → mI N' z' → LW p e s m below meth c b nc ns x ay 1533 (lL x ay b i) [] M' N') : LW p e s m below meth c b nc ns x ay 389 (lL x ay b i) [] M N := by
  obtain ⟨z', r, h1, h2⟩ := p_read (x := x) (y := jy x ay) (xs (i + 1)) (xs (i + 2)) hc hm
  refine l_aload_n C (j := 1) (pc := 389) dL_law_389 rfl rfl ?_
  refine l_arg C (pc := 390) (j := 1) dL_law_390 dL_law_391 dL_law_392 dL_law_393 dL_law_394 rfl (by omega) ?_
  refine l_arg C (pc := 395) (j := 2) dL_law_395 dL_law_396 dL_law_397 dL_law_398 dL_law_399 rfl (by omega) ?_
  refine l_callC C (As := [.int (xs (i + 1)), .int (xs (i + 2))]) (st := []) (pc := 400) dL_law_400 gm_X11_read rfl ml_L_39 rfl (Nat.le_of_ble_eq_true rfl) h1 (fun M1 r1 hr1 => ?_)
  obtain ⟨v1, rfl, rfl, hc1⟩ := hr1
  refine l_aload_n C (j := 2) (pc := 403) dL_law_403 rfl rfl ?_
  refine l_arg C (pc := 404) (j := 1) dL_law_404 dL_law_405 dL_law_406 dL_law_407 dL_law_408 rfl (by omega) ?_
  refine l_arg C (pc := 409) (j := 2) dL_law_409 dL_law_410 dL_law_411 dL_law_412 dL_law_413 rfl (by omega) ?_
  refine l_callM C (As := [.int (xs (i + 1)), .int (xs (i + 2))]) (st := [.long v1]) (pc := 414) dL_law_414 gm_X12_read rfl ml_L_43 rfl (Nat.le_of_ble_eq_true rfl) h2 (fun N1 r2 hr2 => ?_)
  obtain ⟨v2, rfl, rfl, hm1⟩ := hr2
  exact l_sameL C (pc := 417) dL_law_417 dL_law_418 (by decide) (kk _ _ _ hc1 hm1)
theorem v_6 (C : lCx p s m meth c b L xs x nc ns) (hi : i + 6 ≤ L) (hc : cI M z) (hm : mI N z) (kk : ∀ z' M' N', cI M' z' → mI N' z' → LW p e s m below meth c b nc ns x ay 1533 (lL x ay b i) [] M' N') : LW p e s m below meth c b nc ns x ay 423 (lL x ay b i) [] M N := by
  obtain ⟨z', r, h1, h2⟩ := p_pour (x := x) (y := jy x ay) (xs (i + 1)) (xs (i + 2)) (xs (i + 3)) (xs (i + 4)) (xs (i + 5)) hc hm
  refine l_aload_n C (j := 1) (pc := 423) dL_law_423 rfl rfl ?_
  refine l_arg C (pc := 424) (j := 1) dL_law_424 dL_law_425 dL_law_426 dL_law_427 dL_law_428 rfl (by omega) ?_
  refine l_arg C (pc := 429) (j := 2) dL_law_429 dL_law_430 dL_law_431 dL_law_432 dL_law_433 rfl (by omega) ?_
  refine l_arg C (pc := 434) (j := 3) dL_law_434 dL_law_435 dL_law_436 dL_law_437 dL_law_438 rfl (by omega) ?_
  refine l_arg C (pc := 439) (j := 4) dL_law_439 dL_law_440 dL_law_441 dL_law_442 dL_law_443 rfl (by omega) ?_
  refine l_arg C (pc := 444) (j := 5) dL_law_444 dL_law_445 dL_law_446 dL_law_447 dL_law_448 rfl (by omega) ?_
  refine l_callC C (As := [.int (xs (i + 1)), .int (xs (i + 2)), .int (xs (i + 3)), .int (xs (i + 4)), .int (xs (i + 5))]) (st := []) (pc := 449) dL_law_449 gm_X11_pour rfl ml_L_44 rfl (Nat.le_of_ble_eq_true rfl) h1 (fun M1 r1 hr1 => ?_)
  obtain ⟨v1, rfl, rfl, hc1⟩ := hr1
  refine l_aload_n C (j := 2) (pc := 452) dL_law_452 rfl rfl ?_
  refine l_arg C (pc := 453) (j := 1) dL_law_453 dL_law_454 dL_law_455 dL_law_456 dL_law_457 rfl (by omega) ?_
  refine l_arg C (pc := 458) (j := 2) dL_law_458 dL_law_459 dL_law_460 dL_law_461 dL_law_462 rfl (by omega) ?_
  refine l_arg C (pc := 463) (j := 3) dL_law_463 dL_law_464 dL_law_465 dL_law_466 dL_law_467 rfl (by omega) ?_
  refine l_arg C (pc := 468) (j := 4) dL_law_468 dL_law_469 dL_law_470 dL_law_471 dL_law_472 rfl (by omega) ?_
  refine l_arg C (pc := 473) (j := 5) dL_law_473 dL_law_474 dL_law_475 dL_law_476 dL_law_477 rfl (by omega) ?_
  refine l_callM C (As := [.int (xs (i + 1)), .int (xs (i + 2)), .int (xs (i + 3)), .int (xs (i + 4)), .int (xs (i + 5))]) (st := [.int (jb v1)]) (pc := 478) dL_law_478 gm_X12_pour rfl ml_L_48 rfl (Nat.le_of_ble_eq_true rfl) h2 (fun N1 r2 hr2 => ?_)
  obtain ⟨v2, rfl, rfl, hm1⟩ := hr2
  exact l_same C (i := i) (pc := 481) dL_law_481 (by decide) (kk _ _ _ hc1 hm1)
theorem v_7 (C : lCx p s m meth c b L xs x nc ns) (hi : i + 6 ≤ L) (hc : cI M z) (hm : mI N z) (kk : ∀ z' M' N', cI M' z' → mI N' z' → LW p e s m below meth c b nc ns x ay 1533 (lL x ay b i) [] M' N') : LW p e s m below meth c b nc ns x ay 486 (lL x ay b i) [] M N := by
  obtain ⟨z', r, h1, h2⟩ := p_feed (x := x) (y := jy x ay) (xs (i + 1)) (xs (i + 2)) (xs (i + 3)) (xs (i + 4)) (xs (i + 5)) hc hm
  refine l_aload_n C (j := 1) (pc := 486) dL_law_486 rfl rfl ?_
  refine l_arg C (pc := 487) (j := 1) dL_law_487 dL_law_488 dL_law_489 dL_law_490 dL_law_491 rfl (by omega) ?_
  refine l_arg C (pc := 492) (j := 2) dL_law_492 dL_law_493 dL_law_494 dL_law_495 dL_law_496 rfl (by omega) ?_
  refine l_arg C (pc := 497) (j := 3) dL_law_497 dL_law_498 dL_law_499 dL_law_500 dL_law_501 rfl (by omega) ?_
  refine l_arg C (pc := 502) (j := 4) dL_law_502 dL_law_503 dL_law_504 dL_law_505 dL_law_506 rfl (by omega) ?_
  refine l_arg C (pc := 507) (j := 5) dL_law_507 dL_law_508 dL_law_509 dL_law_510 dL_law_511 rfl (by omega) ?_
  refine l_callC C (As := [.int (xs (i + 1)), .int (xs (i + 2)), .int (xs (i + 3)), .int (xs (i + 4)), .int (xs (i + 5))]) (st := []) (pc := 512) dL_law_512 gm_X11_feed rfl ml_L_49 rfl (Nat.le_of_ble_eq_true rfl) h1 (fun M1 r1 hr1 => ?_)
  obtain ⟨v1, rfl, rfl, hc1⟩ := hr1
  refine l_aload_n C (j := 2) (pc := 515) dL_law_515 rfl rfl ?_
  refine l_arg C (pc := 516) (j := 1) dL_law_516 dL_law_517 dL_law_518 dL_law_519 dL_law_520 rfl (by omega) ?_
  refine l_arg C (pc := 521) (j := 2) dL_law_521 dL_law_522 dL_law_523 dL_law_524 dL_law_525 rfl (by omega) ?_
  refine l_arg C (pc := 526) (j := 3) dL_law_526 dL_law_527 dL_law_528 dL_law_529 dL_law_530 rfl (by omega) ?_
  refine l_arg C (pc := 531) (j := 4) dL_law_531 dL_law_532 dL_law_533 dL_law_534 dL_law_535 rfl (by omega) ?_
  refine l_arg C (pc := 536) (j := 5) dL_law_536 dL_law_537 dL_law_538 dL_law_539 dL_law_540 rfl (by omega) ?_
  refine l_callM C (As := [.int (xs (i + 1)), .int (xs (i + 2)), .int (xs (i + 3)), .int (xs (i + 4)), .int (xs (i + 5))]) (st := [.int v1]) (pc := 541) dL_law_541 gm_X12_feed rfl ml_L_53 rfl (Nat.le_of_ble_eq_true rfl) h2 (fun N1 r2 hr2 => ?_)
  obtain ⟨v2, rfl, rfl, hm1⟩ := hr2
  exact l_same C (i := i) (pc := 544) dL_law_544 (by decide) (kk _ _ _ hc1 hm1)
theorem v_8 (C : lCx p s m meth c b L xs x nc ns) (hi : i + 6 ≤ L) (hc : cI M z) (hm : mI N z) (kk : ∀ z' M' N', cI M' z' → mI N' z' → LW p e s m below meth c b nc ns x ay 1533 (lL x ay b i) [] M' N') : LW p e s m below meth c b nc ns x ay 549 (lL x ay b i) [] M N := by
  obtain ⟨z', r, h1, h2⟩ := p_plain (x := x) (y := jy x ay) (xs (i + 1)) hc hm
  refine l_aload_n C (j := 1) (pc := 549) dL_law_549 rfl rfl ?_
  refine l_arg C (pc := 550) (j := 1) dL_law_550 dL_law_551 dL_law_552 dL_law_553 dL_law_554 rfl (by omega) ?_
  refine l_callC C (As := [.int (xs (i + 1))]) (st := []) (pc := 555) dL_law_555 gm_X11_plain rfl ml_L_54 rfl (Nat.le_of_ble_eq_true rfl) h1 (fun M1 r1 hr1 => ?_)
  obtain ⟨v1, rfl, rfl, hc1⟩ := hr1
  refine l_aload_n C (j := 2) (pc := 558) dL_law_558 rfl rfl ?_
  refine l_arg C (pc := 559) (j := 1) dL_law_559 dL_law_560 dL_law_561 dL_law_562 dL_law_563 rfl (by omega) ?_
  refine l_callM C (As := [.int (xs (i + 1))]) (st := [.int v1]) (pc := 564) dL_law_564 gm_X12_plain rfl ml_L_58 rfl (Nat.le_of_ble_eq_true rfl) h2 (fun N1 r2 hr2 => ?_)
  obtain ⟨v2, rfl, rfl, hm1⟩ := hr2
  exact l_same C (i := i) (pc := 567) dL_law_567 (by decide) (kk _ _ _ hc1 hm1)
theorem v_9 (C : lCx p s m meth c b L xs x nc ns) (hi : i + 6 ≤ L) (hc : cI M z) (hm : mI N z) (kk : ∀ z' M' N', cI M' z' → mI N' z' → LW p e s m below meth c b nc ns x ay 1533 (lL x ay b i) [] M' N') : LW p e s m below meth c b nc ns x ay 572 (lL x ay b i) [] M N := by
  obtain ⟨z', r, h1, h2⟩ := p_orders (x := x) (y := jy x ay) (xs (i + 1)) hc hm
  refine l_aload_n C (j := 1) (pc := 572) dL_law_572 rfl rfl ?_
  refine l_arg C (pc := 573) (j := 1) dL_law_573 dL_law_574 dL_law_575 dL_law_576 dL_law_577 rfl (by omega) ?_
  refine l_callC C (As := [.int (xs (i + 1))]) (st := []) (pc := 578) dL_law_578 gm_X11_orders rfl ml_L_59 rfl (Nat.le_of_ble_eq_true rfl) h1 (fun M1 r1 hr1 => ?_)
  obtain ⟨v1, rfl, rfl, hc1⟩ := hr1
  refine l_aload_n C (j := 2) (pc := 581) dL_law_581 rfl rfl ?_
  refine l_arg C (pc := 582) (j := 1) dL_law_582 dL_law_583 dL_law_584 dL_law_585 dL_law_586 rfl (by omega) ?_
  refine l_callM C (As := [.int (xs (i + 1))]) (st := [.int v1]) (pc := 587) dL_law_587 gm_X12_orders rfl ml_L_62 rfl (Nat.le_of_ble_eq_true rfl) h2 (fun N1 r2 hr2 => ?_)
  obtain ⟨v2, rfl, rfl, hm1⟩ := hr2
  exact l_same C (i := i) (pc := 590) dL_law_590 (by decide) (kk _ _ _ hc1 hm1)
theorem v_10 (C : lCx p s m meth c b L xs x nc ns) (hi : i + 6 ≤ L) (hc : cI M z) (hm : mI N z) (kk : ∀ z' M' N', cI M' z' → mI N' z' → LW p e s m below meth c b nc ns x ay 1533 (lL x ay b i) [] M' N') : LW p e s m below meth c b nc ns x ay 595 (lL x ay b i) [] M N := by
  obtain ⟨z', r, h1, h2⟩ := p_fault (x := x) (y := jy x ay) (xs (i + 1)) hc hm
  refine l_aload_n C (j := 1) (pc := 595) dL_law_595 rfl rfl ?_
  refine l_arg C (pc := 596) (j := 1) dL_law_596 dL_law_597 dL_law_598 dL_law_599 dL_law_600 rfl (by omega) ?_
  refine l_callC C (As := [.int (xs (i + 1))]) (st := []) (pc := 601) dL_law_601 gm_X11_fault rfl ml_L_63 rfl (Nat.le_of_ble_eq_true rfl) h1 (fun M1 r1 hr1 => ?_)
  obtain ⟨v1, rfl, rfl, hc1⟩ := hr1
  refine l_aload_n C (j := 2) (pc := 604) dL_law_604 rfl rfl ?_
  refine l_arg C (pc := 605) (j := 1) dL_law_605 dL_law_606 dL_law_607 dL_law_608 dL_law_609 rfl (by omega) ?_
  refine l_callM C (As := [.int (xs (i + 1))]) (st := [.int v1]) (pc := 610) dL_law_610 gm_X12_fault rfl ml_L_66 rfl (Nat.le_of_ble_eq_true rfl) h2 (fun N1 r2 hr2 => ?_)
  obtain ⟨v2, rfl, rfl, hm1⟩ := hr2
  exact l_same C (i := i) (pc := 613) dL_law_613 (by decide) (kk _ _ _ hc1 hm1)
theorem v_11 (C : lCx p s m meth c b L xs x nc ns) (hi : i + 6 ≤ L) (hc : cI M z) (hm : mI N z) (kk : ∀ z' M' N', cI M' z' → mI N' z' → LW p e s m below meth c b nc ns x ay 1533 (lL x ay b i) [] M' N') : LW p e s m below meth c b nc ns x ay 618 (lL x ay b i) [] M N := by
  obtain ⟨z', r, h1, h2⟩ := p_many (x := x) (y := jy x ay) (xs (i + 1)) hc hm
  refine l_aload_n C (j := 1) (pc := 618) dL_law_618 rfl rfl ?_
  refine l_arg C (pc := 619) (j := 1) dL_law_619 dL_law_620 dL_law_621 dL_law_622 dL_law_623 rfl (by omega) ?_
  refine l_callC C (As := [.int (xs (i + 1))]) (st := []) (pc := 624) dL_law_624 gm_X11_many rfl ml_L_67 rfl (Nat.le_of_ble_eq_true rfl) h1 (fun M1 r1 hr1 => ?_)
  obtain ⟨v1, rfl, rfl, hc1⟩ := hr1
  refine l_aload_n C (j := 2) (pc := 627) dL_law_627 rfl rfl ?_
  refine l_arg C (pc := 628) (j := 1) dL_law_628 dL_law_629 dL_law_630 dL_law_631 dL_law_632 rfl (by omega) ?_
  refine l_callM C (As := [.int (xs (i + 1))]) (st := [.int v1]) (pc := 633) dL_law_633 gm_X12_many rfl ml_L_70 rfl (Nat.le_of_ble_eq_true rfl) h2 (fun N1 r2 hr2 => ?_)
  obtain ⟨v2, rfl, rfl, hm1⟩ := hr2
  exact l_same C (i := i) (pc := 636) dL_law_636 (by decide) (kk _ _ _ hc1 hm1)
theorem v_12 (C : lCx p s m meth c b L xs x nc ns) (hi : i + 6 ≤ L) (hc : cI M z) (hm : mI N z) (kk : ∀ z' M' N', cI M' z' → mI N' z' → LW p e s m below meth c b nc ns x ay 1533 (lL x ay b i) [] M' N') : LW p e s m below meth c b nc ns x ay 641 (lL x ay b i) [] M N := by
  obtain ⟨z', r, h1, h2⟩ := p_cell (x := x) (y := jy x ay) (xs (i + 1)) (xs (i + 2)) hc hm
  refine l_aload_n C (j := 1) (pc := 641) dL_law_641 rfl rfl ?_
  refine l_arg C (pc := 642) (j := 1) dL_law_642 dL_law_643 dL_law_644 dL_law_645 dL_law_646 rfl (by omega) ?_
  refine l_arg C (pc := 647) (j := 2) dL_law_647 dL_law_648 dL_law_649 dL_law_650 dL_law_651 rfl (by omega) ?_
  refine l_callC C (As := [.int (xs (i + 1)), .int (xs (i + 2))]) (st := []) (pc := 652) dL_law_652 gm_X11_cell rfl ml_L_71 rfl (Nat.le_of_ble_eq_true rfl) h1 (fun M1 r1 hr1 => ?_)
  obtain ⟨v1, rfl, rfl, hc1⟩ := hr1
  refine l_aload_n C (j := 2) (pc := 655) dL_law_655 rfl rfl ?_
  refine l_arg C (pc := 656) (j := 1) dL_law_656 dL_law_657 dL_law_658 dL_law_659 dL_law_660 rfl (by omega) ?_
  refine l_arg C (pc := 661) (j := 2) dL_law_661 dL_law_662 dL_law_663 dL_law_664 dL_law_665 rfl (by omega) ?_
  refine l_callM C (As := [.int (xs (i + 1)), .int (xs (i + 2))]) (st := [.int v1]) (pc := 666) dL_law_666 gm_X12_cell rfl ml_L_75 rfl (Nat.le_of_ble_eq_true rfl) h2 (fun N1 r2 hr2 => ?_)
  obtain ⟨v2, rfl, rfl, hm1⟩ := hr2
  exact l_same C (i := i) (pc := 669) dL_law_669 (by decide) (kk _ _ _ hc1 hm1)
theorem v_13 (C : lCx p s m meth c b L xs x nc ns) (hi : i + 6 ≤ L) (hc : cI M z) (hm : mI N z) (kk : ∀ z' M' N', cI M' z' → mI N' z' → LW p e s m below meth c b nc ns x ay 1533 (lL x ay b i) [] M' N') : LW p e s m below meth c b nc ns x ay 674 (lL x ay b i) [] M N := by
  obtain ⟨z', r, h1, h2⟩ := p_village (x := x) (y := jy x ay) (xs (i + 1)) (xs (i + 2)) hc hm
  refine l_aload_n C (j := 1) (pc := 674) dL_law_674 rfl rfl ?_
  refine l_arg C (pc := 675) (j := 1) dL_law_675 dL_law_676 dL_law_677 dL_law_678 dL_law_679 rfl (by omega) ?_
  refine l_arg C (pc := 680) (j := 2) dL_law_680 dL_law_681 dL_law_682 dL_law_683 dL_law_684 rfl (by omega) ?_
  refine l_callC C (As := [.int (xs (i + 1)), .int (xs (i + 2))]) (st := []) (pc := 685) dL_law_685 gm_X11_village rfl ml_L_76 rfl (Nat.le_of_ble_eq_true rfl) h1 (fun M1 r1 hr1 => ?_)
  obtain ⟨v1, rfl, rfl, hc1⟩ := hr1
  refine l_aload_n C (j := 2) (pc := 688) dL_law_688 rfl rfl ?_
  refine l_arg C (pc := 689) (j := 1) dL_law_689 dL_law_690 dL_law_691 dL_law_692 dL_law_693 rfl (by omega) ?_
  refine l_arg C (pc := 694) (j := 2) dL_law_694 dL_law_695 dL_law_696 dL_law_697 dL_law_698 rfl (by omega) ?_
  refine l_callM C (As := [.int (xs (i + 1)), .int (xs (i + 2))]) (st := [.int v1]) (pc := 699) dL_law_699 gm_X12_village rfl ml_L_79 rfl (Nat.le_of_ble_eq_true rfl) h2 (fun N1 r2 hr2 => ?_)
  obtain ⟨v2, rfl, rfl, hm1⟩ := hr2
  exact l_same C (i := i) (pc := 702) dL_law_702 (by decide) (kk _ _ _ hc1 hm1)
theorem v_14 (C : lCx p s m meth c b L xs x nc ns) (hi : i + 6 ≤ L) (hc : cI M z) (hm : mI N z) (kk : ∀ z' M' N', cI M' z' → mI N' z' → LW p e s m below meth c b nc ns x ay 1533 (lL x ay b i) [] M' N') : LW p e s m below meth c b nc ns x ay 707 (lL x ay b i) [] M N := by
  obtain ⟨z', r, h1, h2⟩ := p_promised (x := x) (y := jy x ay) (xs (i + 1)) (xs (i + 2)) hc hm
  refine l_aload_n C (j := 1) (pc := 707) dL_law_707 rfl rfl ?_
  refine l_arg C (pc := 708) (j := 1) dL_law_708 dL_law_709 dL_law_710 dL_law_711 dL_law_712 rfl (by omega) ?_
  refine l_arg C (pc := 713) (j := 2) dL_law_713 dL_law_714 dL_law_715 dL_law_716 dL_law_717 rfl (by omega) ?_
  refine l_callC C (As := [.int (xs (i + 1)), .int (xs (i + 2))]) (st := []) (pc := 718) dL_law_718 gm_X11_promised rfl ml_L_80 rfl (Nat.le_of_ble_eq_true rfl) h1 (fun M1 r1 hr1 => ?_)
  obtain ⟨v1, rfl, rfl, hc1⟩ := hr1
  refine l_aload_n C (j := 2) (pc := 721) dL_law_721 rfl rfl ?_
  refine l_arg C (pc := 722) (j := 1) dL_law_722 dL_law_723 dL_law_724 dL_law_725 dL_law_726 rfl (by omega) ?_
  refine l_arg C (pc := 727) (j := 2) dL_law_727 dL_law_728 dL_law_729 dL_law_730 dL_law_731 rfl (by omega) ?_
  refine l_callM C (As := [.int (xs (i + 1)), .int (xs (i + 2))]) (st := [.int v1]) (pc := 732) dL_law_732 gm_X12_promised rfl ml_L_83 rfl (Nat.le_of_ble_eq_true rfl) h2 (fun N1 r2 hr2 => ?_)
  obtain ⟨v2, rfl, rfl, hm1⟩ := hr2
  exact l_same C (i := i) (pc := 735) dL_law_735 (by decide) (kk _ _ _ hc1 hm1)
theorem v_15 (C : lCx p s m meth c b L xs x nc ns) (hi : i + 6 ≤ L) (hc : cI M z) (hm : mI N z) (kk : ∀ z' M' N', cI M' z' → mI N' z' → LW p e s m below meth c b nc ns x ay 1533 (lL x ay b i) [] M' N') : LW p e s m below meth c b nc ns x ay 740 (lL x ay b i) [] M N := by
  obtain ⟨z', r, h1, h2⟩ := p_strip (x := x) (y := jy x ay) (xs (i + 1)) (xs (i + 2)) hc hm
  refine l_aload_n C (j := 1) (pc := 740) dL_law_740 rfl rfl ?_
  refine l_arg C (pc := 741) (j := 1) dL_law_741 dL_law_742 dL_law_743 dL_law_744 dL_law_745 rfl (by omega) ?_
  refine l_arg C (pc := 746) (j := 2) dL_law_746 dL_law_747 dL_law_748 dL_law_749 dL_law_750 rfl (by omega) ?_
  refine l_callC C (As := [.int (xs (i + 1)), .int (xs (i + 2))]) (st := []) (pc := 751) dL_law_751 gm_X11_strip rfl ml_L_84 rfl (Nat.le_of_ble_eq_true rfl) h1 (fun M1 r1 hr1 => ?_)
  obtain ⟨v1, rfl, rfl, hc1⟩ := hr1
  refine l_aload_n C (j := 2) (pc := 754) dL_law_754 rfl rfl ?_
  refine l_arg C (pc := 755) (j := 1) dL_law_755 dL_law_756 dL_law_757 dL_law_758 dL_law_759 rfl (by omega) ?_
  refine l_arg C (pc := 760) (j := 2) dL_law_760 dL_law_761 dL_law_762 dL_law_763 dL_law_764 rfl (by omega) ?_
  refine l_callM C (As := [.int (xs (i + 1)), .int (xs (i + 2))]) (st := [.int v1]) (pc := 765) dL_law_765 gm_X12_strip rfl ml_L_87 rfl (Nat.le_of_ble_eq_true rfl) h2 (fun N1 r2 hr2 => ?_)
  obtain ⟨v2, rfl, rfl, hm1⟩ := hr2
  exact l_same C (i := i) (pc := 768) dL_law_768 (by decide) (kk _ _ _ hc1 hm1)
theorem v_16 (C : lCx p s m meth c b L xs x nc ns) (hi : i + 6 ≤ L) (hc : cI M z) (hm : mI N z) (kk : ∀ z' M' N', cI M' z' → mI N' z' → LW p e s m below meth c b nc ns x ay 1533 (lL x ay b i) [] M' N') : LW p e s m below meth c b nc ns x ay 773 (lL x ay b i) [] M N := by
  obtain ⟨z', r, h1, h2⟩ := p_height (x := x) (y := jy x ay) (xs (i + 1)) hc hm
  refine l_aload_n C (j := 1) (pc := 773) dL_law_773 rfl rfl ?_
  refine l_arg C (pc := 774) (j := 1) dL_law_774 dL_law_775 dL_law_776 dL_law_777 dL_law_778 rfl (by omega) ?_
  refine l_callC C (As := [.int (xs (i + 1))]) (st := []) (pc := 779) dL_law_779 gm_X11_height rfl ml_L_88 rfl (Nat.le_of_ble_eq_true rfl) h1 (fun M1 r1 hr1 => ?_)
  obtain ⟨v1, rfl, rfl, hc1⟩ := hr1
  refine l_aload_n C (j := 2) (pc := 782) dL_law_782 rfl rfl ?_
  refine l_arg C (pc := 783) (j := 1) dL_law_783 dL_law_784 dL_law_785 dL_law_786 dL_law_787 rfl (by omega) ?_
  refine l_callM C (As := [.int (xs (i + 1))]) (st := [.int v1]) (pc := 788) dL_law_788 gm_X12_height rfl ml_L_91 rfl (Nat.le_of_ble_eq_true rfl) h2 (fun N1 r2 hr2 => ?_)
  obtain ⟨v2, rfl, rfl, hm1⟩ := hr2
  exact l_same C (i := i) (pc := 791) dL_law_791 (by decide) (kk _ _ _ hc1 hm1)
theorem v_17 (C : lCx p s m meth c b L xs x nc ns) (hi : i + 6 ≤ L) (hc : cI M z) (hm : mI N z) (kk : ∀ z' M' N', cI M' z' → mI N' z' → LW p e s m below meth c b nc ns x ay 1533 (lL x ay b i) [] M' N') : LW p e s m below meth c b nc ns x ay 796 (lL x ay b i) [] M N := by
  obtain ⟨z', r, h1, h2⟩ := p_build (x := x) (y := jy x ay) (xs (i + 1)) (xs (i + 2)) hc hm
  refine l_aload_n C (j := 1) (pc := 796) dL_law_796 rfl rfl ?_
  refine l_arg C (pc := 797) (j := 1) dL_law_797 dL_law_798 dL_law_799 dL_law_800 dL_law_801 rfl (by omega) ?_
  refine l_arg C (pc := 802) (j := 2) dL_law_802 dL_law_803 dL_law_804 dL_law_805 dL_law_806 rfl (by omega) ?_
  refine l_callC C (As := [.int (xs (i + 1)), .int (xs (i + 2))]) (st := []) (pc := 807) dL_law_807 gm_X11_build rfl ml_L_92 rfl (Nat.le_of_ble_eq_true rfl) h1 (fun M1 r1 hr1 => ?_)
  obtain ⟨v1, rfl, rfl, hc1⟩ := hr1
  refine l_aload_n C (j := 2) (pc := 810) dL_law_810 rfl rfl ?_
  refine l_arg C (pc := 811) (j := 1) dL_law_811 dL_law_812 dL_law_813 dL_law_814 dL_law_815 rfl (by omega) ?_
  refine l_arg C (pc := 816) (j := 2) dL_law_816 dL_law_817 dL_law_818 dL_law_819 dL_law_820 rfl (by omega) ?_
  refine l_callM C (As := [.int (xs (i + 1)), .int (xs (i + 2))]) (st := [.int (jb v1)]) (pc := 821) dL_law_821 gm_X12_build rfl ml_L_96 rfl (Nat.le_of_ble_eq_true rfl) h2 (fun N1 r2 hr2 => ?_)
  obtain ⟨v2, rfl, rfl, hm1⟩ := hr2
  exact l_same C (i := i) (pc := 824) dL_law_824 (by decide) (kk _ _ _ hc1 hm1)
theorem v_18 (C : lCx p s m meth c b L xs x nc ns) (hi : i + 6 ≤ L) (hc : cI M z) (hm : mI N z) (kk : ∀ z' M' N', cI M' z' → mI N' z' → LW p e s m below meth c b nc ns x ay 1533 (lL x ay b i) [] M' N') : LW p e s m below meth c b nc ns x ay 829 (lL x ay b i) [] M N := by
  obtain ⟨z', r, h1, h2⟩ := p_buildAll (x := x) (y := jy x ay) (xs (i + 1)) hc hm
  refine l_aload_n C (j := 1) (pc := 829) dL_law_829 rfl rfl ?_
  refine l_arg C (pc := 830) (j := 1) dL_law_830 dL_law_831 dL_law_832 dL_law_833 dL_law_834 rfl (by omega) ?_
  refine l_callC C (As := [.int (xs (i + 1))]) (st := []) (pc := 835) dL_law_835 gm_X11_buildAll rfl ml_L_97 rfl (Nat.le_of_ble_eq_true rfl) h1 (fun M1 r1 hr1 => ?_)
  obtain ⟨v1, rfl, rfl, hc1⟩ := hr1
  refine l_aload_n C (j := 2) (pc := 838) dL_law_838 rfl rfl ?_
  refine l_arg C (pc := 839) (j := 1) dL_law_839 dL_law_840 dL_law_841 dL_law_842 dL_law_843 rfl (by omega) ?_
  refine l_callM C (As := [.int (xs (i + 1))]) (st := [.int (jb v1)]) (pc := 844) dL_law_844 gm_X12_buildAll rfl ml_L_101 rfl (Nat.le_of_ble_eq_true rfl) h2 (fun N1 r2 hr2 => ?_)
  obtain ⟨v2, rfl, rfl, hm1⟩ := hr2
  exact l_same C (i := i) (pc := 847) dL_law_847 (by decide) (kk _ _ _ hc1 hm1)
theorem v_19 (C : lCx p s m meth c b L xs x nc ns) (hi : i + 6 ≤ L) (hc : cI M z) (hm : mI N z) (kk : ∀ z' M' N', cI M' z' → mI N' z' → LW p e s m below meth c b nc ns x ay 1533 (lL x ay b i) [] M' N') : LW p e s m below meth c b nc ns x ay 852 (lL x ay b i) [] M N := by
  obtain ⟨z', r, h1, h2⟩ := p_seen (x := x) (y := jy x ay) (xs (i + 1)) (xs (i + 2)) hc hm
  refine l_aload_n C (j := 1) (pc := 852) dL_law_852 rfl rfl ?_
  refine l_arg C (pc := 853) (j := 1) dL_law_853 dL_law_854 dL_law_855 dL_law_856 dL_law_857 rfl (by omega) ?_
  refine l_arg C (pc := 858) (j := 2) dL_law_858 dL_law_859 dL_law_860 dL_law_861 dL_law_862 rfl (by omega) ?_
  refine l_callC C (As := [.int (xs (i + 1)), .int (xs (i + 2))]) (st := []) (pc := 863) dL_law_863 gm_X11_seen rfl ml_L_102 rfl (Nat.le_of_ble_eq_true rfl) h1 (fun M1 r1 hr1 => ?_)
  obtain ⟨v1, rfl, rfl, hc1⟩ := hr1
  refine l_aload_n C (j := 2) (pc := 866) dL_law_866 rfl rfl ?_
  refine l_arg C (pc := 867) (j := 1) dL_law_867 dL_law_868 dL_law_869 dL_law_870 dL_law_871 rfl (by omega) ?_
  refine l_arg C (pc := 872) (j := 2) dL_law_872 dL_law_873 dL_law_874 dL_law_875 dL_law_876 rfl (by omega) ?_
  refine l_callM C (As := [.int (xs (i + 1)), .int (xs (i + 2))]) (st := [.int v1]) (pc := 877) dL_law_877 gm_X12_seen rfl ml_L_105 rfl (Nat.le_of_ble_eq_true rfl) h2 (fun N1 r2 hr2 => ?_)
  obtain ⟨v2, rfl, rfl, hm1⟩ := hr2
  exact l_same C (i := i) (pc := 880) dL_law_880 (by decide) (kk _ _ _ hc1 hm1)
theorem v_20 (C : lCx p s m meth c b L xs x nc ns) (hi : i + 6 ≤ L) (hc : cI M z) (hm : mI N z) (kk : ∀ z' M' N', cI M' z' → mI N' z' → LW p e s m below meth c b nc ns x ay 1533 (lL x ay b i) [] M' N') : LW p e s m below meth c b nc ns x ay 885 (lL x ay b i) [] M N := by
  obtain ⟨z', r, h1, h2⟩ := p_otherwise (x := x) (y := jy x ay) (xs (i + 1)) hc hm
  refine l_aload_n C (j := 1) (pc := 885) dL_law_885 rfl rfl ?_
  refine l_arg C (pc := 886) (j := 1) dL_law_886 dL_law_887 dL_law_888 dL_law_889 dL_law_890 rfl (by omega) ?_
  refine l_callC C (As := [.int (xs (i + 1))]) (st := []) (pc := 891) dL_law_891 gm_X11_otherwise rfl ml_L_106 rfl (Nat.le_of_ble_eq_true rfl) h1 (fun M1 r1 hr1 => ?_)
  obtain ⟨v1, rfl, rfl, hc1⟩ := hr1
  refine l_aload_n C (j := 2) (pc := 894) dL_law_894 rfl rfl ?_
  refine l_arg C (pc := 895) (j := 1) dL_law_895 dL_law_896 dL_law_897 dL_law_898 dL_law_899 rfl (by omega) ?_
  refine l_callM C (As := [.int (xs (i + 1))]) (st := [.int v1]) (pc := 900) dL_law_900 gm_X12_otherwise rfl ml_L_109 rfl (Nat.le_of_ble_eq_true rfl) h2 (fun N1 r2 hr2 => ?_)
  obtain ⟨v2, rfl, rfl, hm1⟩ := hr2
  exact l_same C (i := i) (pc := 903) dL_law_903 (by decide) (kk _ _ _ hc1 hm1)
theorem v_21 (C : lCx p s m meth c b L xs x nc ns) (hi : i + 6 ≤ L) (hc : cI M z) (hm : mI N z) (kk : ∀ z' M' N', cI M' z' → mI N' z' → LW p e s m below meth c b nc ns x ay 1533 (lL x ay b i) [] M' N') : LW p e s m below meth c b nc ns x ay 908 (lL x ay b i) [] M N := by
  obtain ⟨z', r, h1, h2⟩ := p_stone (x := x) (y := jy x ay)  hc hm
  refine l_aload_n C (j := 1) (pc := 908) dL_law_908 rfl rfl ?_
  refine l_callC C (As := []) (st := []) (pc := 909) dL_law_909 gm_X11_stone rfl ml_L_110 rfl (Nat.le_of_ble_eq_true rfl) h1 (fun M1 r1 hr1 => ?_)
  obtain ⟨v1, rfl, rfl, hc1⟩ := hr1
  refine l_aload_n C (j := 2) (pc := 912) dL_law_912 rfl rfl ?_
  refine l_callM C (As := []) (st := [.int v1]) (pc := 913) dL_law_913 gm_X12_stone rfl ml_L_113 rfl (Nat.le_of_ble_eq_true rfl) h2 (fun N1 r2 hr2 => ?_)
  obtain ⟨v2, rfl, rfl, hm1⟩ := hr2
  exact l_same C (i := i) (pc := 916) dL_law_916 (by decide) (kk _ _ _ hc1 hm1)
theorem v_22 (C : lCx p s m meth c b L xs x nc ns) (hi : i + 6 ≤ L) (hc : cI M z) (hm : mI N z) (kk : ∀ z' M' N', cI M' z' → mI N' z' → LW p e s m below meth c b nc ns x ay 1533 (lL x ay b i) [] M' N') : LW p e s m below meth c b nc ns x ay 921 (lL x ay b i) [] M N := by
  obtain ⟨z', r, h1, h2⟩ := p_cap (x := x) (y := jy x ay) (xs (i + 1)) (xs (i + 2)) hc hm
  refine l_aload_n C (j := 1) (pc := 921) dL_law_921 rfl rfl ?_
  refine l_arg C (pc := 922) (j := 1) dL_law_922 dL_law_923 dL_law_924 dL_law_925 dL_law_926 rfl (by omega) ?_
  refine l_arg C (pc := 927) (j := 2) dL_law_927 dL_law_928 dL_law_929 dL_law_930 dL_law_931 rfl (by omega) ?_
  refine l_callC C (As := [.int (xs (i + 1)), .int (xs (i + 2))]) (st := []) (pc := 932) dL_law_932 gm_X11_cap rfl ml_L_114 rfl (Nat.le_of_ble_eq_true rfl) h1 (fun M1 r1 hr1 => ?_)
  obtain ⟨v1, rfl, rfl, hc1⟩ := hr1
  refine l_aload_n C (j := 2) (pc := 935) dL_law_935 rfl rfl ?_
  refine l_arg C (pc := 936) (j := 1) dL_law_936 dL_law_937 dL_law_938 dL_law_939 dL_law_940 rfl (by omega) ?_
  refine l_arg C (pc := 941) (j := 2) dL_law_941 dL_law_942 dL_law_943 dL_law_944 dL_law_945 rfl (by omega) ?_
  refine l_callM C (As := [.int (xs (i + 1)), .int (xs (i + 2))]) (st := [.int v1]) (pc := 946) dL_law_946 gm_X12_cap rfl ml_L_117 rfl (Nat.le_of_ble_eq_true rfl) h2 (fun N1 r2 hr2 => ?_)
  obtain ⟨v2, rfl, rfl, hm1⟩ := hr2
  exact l_same C (i := i) (pc := 949) dL_law_949 (by decide) (kk _ _ _ hc1 hm1)
theorem v_23 (C : lCx p s m meth c b L xs x nc ns) (hi : i + 6 ≤ L) (hc : cI M z) (hm : mI N z) (kk : ∀ z' M' N', cI M' z' → mI N' z' → LW p e s m below meth c b nc ns x ay 1533 (lL x ay b i) [] M' N') : LW p e s m below meth c b nc ns x ay 954 (lL x ay b i) [] M N := by
  obtain ⟨z', r, h1, h2⟩ := p_can (x := x) (y := jy x ay) (xs (i + 1)) hc hm
  refine l_aload_n C (j := 1) (pc := 954) dL_law_954 rfl rfl ?_
  refine l_arg C (pc := 955) (j := 1) dL_law_955 dL_law_956 dL_law_957 dL_law_958 dL_law_959 rfl (by omega) ?_
  refine l_callC C (As := [.int (xs (i + 1))]) (st := []) (pc := 960) dL_law_960 gm_X11_can rfl ml_L_118 rfl (Nat.le_of_ble_eq_true rfl) h1 (fun M1 r1 hr1 => ?_)
  obtain ⟨v1, rfl, rfl, hc1⟩ := hr1
  refine l_aload_n C (j := 2) (pc := 963) dL_law_963 rfl rfl ?_
  refine l_arg C (pc := 964) (j := 1) dL_law_964 dL_law_965 dL_law_966 dL_law_967 dL_law_968 rfl (by omega) ?_
  refine l_callM C (As := [.int (xs (i + 1))]) (st := [.int v1]) (pc := 969) dL_law_969 gm_X12_can rfl ml_L_121 rfl (Nat.le_of_ble_eq_true rfl) h2 (fun N1 r2 hr2 => ?_)
  obtain ⟨v2, rfl, rfl, hm1⟩ := hr2
  exact l_same C (i := i) (pc := 972) dL_law_972 (by decide) (kk _ _ _ hc1 hm1)
theorem v_24 (C : lCx p s m meth c b L xs x nc ns) (hi : i + 6 ≤ L) (hc : cI M z) (hm : mI N z) (kk : ∀ z' M' N', cI M' z' → mI N' z' → LW p e s m below meth c b nc ns x ay 1533 (lL x ay b i) [] M' N') : LW p e s m below meth c b nc ns x ay 977 (lL x ay b i) [] M N := by
  obtain ⟨z', r, h1, h2⟩ := p_barred (x := x) (y := jy x ay) (xs (i + 1)) (xs (i + 2)) hc hm
  refine l_aload_n C (j := 1) (pc := 977) dL_law_977 rfl rfl ?_
  refine l_arg C (pc := 978) (j := 1) dL_law_978 dL_law_979 dL_law_980 dL_law_981 dL_law_982 rfl (by omega) ?_
  refine l_arg C (pc := 983) (j := 2) dL_law_983 dL_law_984 dL_law_985 dL_law_986 dL_law_987 rfl (by omega) ?_
  refine l_callC C (As := [.int (xs (i + 1)), .int (xs (i + 2))]) (st := []) (pc := 988) dL_law_988 gm_X11_barred rfl ml_L_122 rfl (Nat.le_of_ble_eq_true rfl) h1 (fun M1 r1 hr1 => ?_)
  obtain ⟨v1, rfl, rfl, hc1⟩ := hr1
  refine l_aload_n C (j := 2) (pc := 991) dL_law_991 rfl rfl ?_
  refine l_arg C (pc := 992) (j := 1) dL_law_992 dL_law_993 dL_law_994 dL_law_995 dL_law_996 rfl (by omega) ?_
  refine l_arg C (pc := 997) (j := 2) dL_law_997 dL_law_998 dL_law_999 dL_law_1000 dL_law_1001 rfl (by omega) ?_
  refine l_callM C (As := [.int (xs (i + 1)), .int (xs (i + 2))]) (st := [.int v1]) (pc := 1002) dL_law_1002 gm_X12_barred rfl ml_L_125 rfl (Nat.le_of_ble_eq_true rfl) h2 (fun N1 r2 hr2 => ?_)
  obtain ⟨v2, rfl, rfl, hm1⟩ := hr2
  exact l_same C (i := i) (pc := 1005) dL_law_1005 (by decide) (kk _ _ _ hc1 hm1)
theorem v_25 (C : lCx p s m meth c b L xs x nc ns) (hi : i + 6 ≤ L) (hc : cI M z) (hm : mI N z) (kk : ∀ z' M' N', cI M' z' → mI N' z' → LW p e s m below meth c b nc ns x ay 1533 (lL x ay b i) [] M' N') : LW p e s m below meth c b nc ns x ay 1010 (lL x ay b i) [] M N := by
  obtain ⟨z', r, h1, h2⟩ := p_largest (x := x) (y := jy x ay) (xs (i + 1)) hc hm
  refine l_aload_n C (j := 1) (pc := 1010) dL_law_1010 rfl rfl ?_
  refine l_arg C (pc := 1011) (j := 1) dL_law_1011 dL_law_1012 dL_law_1013 dL_law_1014 dL_law_1015 rfl (by omega) ?_
  refine l_callC C (As := [.int (xs (i + 1))]) (st := []) (pc := 1016) dL_law_1016 gm_X11_largest rfl ml_L_126 rfl (Nat.le_of_ble_eq_true rfl) h1 (fun M1 r1 hr1 => ?_)
  obtain ⟨v1, rfl, rfl, hc1⟩ := hr1
  refine l_aload_n C (j := 2) (pc := 1019) dL_law_1019 rfl rfl ?_
  refine l_arg C (pc := 1020) (j := 1) dL_law_1020 dL_law_1021 dL_law_1022 dL_law_1023 dL_law_1024 rfl (by omega) ?_
  refine l_callM C (As := [.int (xs (i + 1))]) (st := [.int v1]) (pc := 1025) dL_law_1025 gm_X12_largest rfl ml_L_129 rfl (Nat.le_of_ble_eq_true rfl) h2 (fun N1 r2 hr2 => ?_)
  obtain ⟨v2, rfl, rfl, hm1⟩ := hr2
  exact l_same C (i := i) (pc := 1028) dL_law_1028 (by decide) (kk _ _ _ hc1 hm1)
theorem v_26 (C : lCx p s m meth c b L xs x nc ns) (hi : i + 6 ≤ L) (hc : cI M z) (hm : mI N z) (kk : ∀ z' M' N', cI M' z' → mI N' z' → LW p e s m below meth c b nc ns x ay 1533 (lL x ay b i) [] M' N') : LW p e s m below meth c b nc ns x ay 1033 (lL x ay b i) [] M N := by
  obtain ⟨z', r, h1, h2⟩ := p_cheapest (x := x) (y := jy x ay) (xs (i + 1)) hc hm
  refine l_aload_n C (j := 1) (pc := 1033) dL_law_1033 rfl rfl ?_
  refine l_arg C (pc := 1034) (j := 1) dL_law_1034 dL_law_1035 dL_law_1036 dL_law_1037 dL_law_1038 rfl (by omega) ?_
  refine l_callC C (As := [.int (xs (i + 1))]) (st := []) (pc := 1039) dL_law_1039 gm_X11_cheapest rfl ml_L_130 rfl (Nat.le_of_ble_eq_true rfl) h1 (fun M1 r1 hr1 => ?_)
  obtain ⟨v1, rfl, rfl, hc1⟩ := hr1
  refine l_aload_n C (j := 2) (pc := 1042) dL_law_1042 rfl rfl ?_
  refine l_arg C (pc := 1043) (j := 1) dL_law_1043 dL_law_1044 dL_law_1045 dL_law_1046 dL_law_1047 rfl (by omega) ?_
  refine l_callM C (As := [.int (xs (i + 1))]) (st := [.int v1]) (pc := 1048) dL_law_1048 gm_X12_cheapest rfl ml_L_133 rfl (Nat.le_of_ble_eq_true rfl) h2 (fun N1 r2 hr2 => ?_)
  obtain ⟨v2, rfl, rfl, hm1⟩ := hr2
  exact l_same C (i := i) (pc := 1051) dL_law_1051 (by decide) (kk _ _ _ hc1 hm1)
theorem v_27 (C : lCx p s m meth c b L xs x nc ns) (hi : i + 6 ≤ L) (hc : cI M z) (hm : mI N z) (kk : ∀ z' M' N', cI M' z' → mI N' z' → LW p e s m below meth c b nc ns x ay 1533 (lL x ay b i) [] M' N') : LW p e s m below meth c b nc ns x ay 1056 (lL x ay b i) [] M N := by
  obtain ⟨z', r, h1, h2⟩ := p_least (x := x) (y := jy x ay) (xs (i + 1)) hc hm
  refine l_aload_n C (j := 1) (pc := 1056) dL_law_1056 rfl rfl ?_
  refine l_arg C (pc := 1057) (j := 1) dL_law_1057 dL_law_1058 dL_law_1059 dL_law_1060 dL_law_1061 rfl (by omega) ?_
  refine l_callC C (As := [.int (xs (i + 1))]) (st := []) (pc := 1062) dL_law_1062 gm_X11_least rfl ml_L_134 rfl (Nat.le_of_ble_eq_true rfl) h1 (fun M1 r1 hr1 => ?_)
  obtain ⟨v1, rfl, rfl, hc1⟩ := hr1
  refine l_aload_n C (j := 2) (pc := 1065) dL_law_1065 rfl rfl ?_
  refine l_arg C (pc := 1066) (j := 1) dL_law_1066 dL_law_1067 dL_law_1068 dL_law_1069 dL_law_1070 rfl (by omega) ?_
  refine l_callM C (As := [.int (xs (i + 1))]) (st := [.int v1]) (pc := 1071) dL_law_1071 gm_X12_least rfl ml_L_137 rfl (Nat.le_of_ble_eq_true rfl) h2 (fun N1 r2 hr2 => ?_)
  obtain ⟨v2, rfl, rfl, hm1⟩ := hr2
  exact l_same C (i := i) (pc := 1074) dL_law_1074 (by decide) (kk _ _ _ hc1 hm1)
theorem v_28 (C : lCx p s m meth c b L xs x nc ns) (hi : i + 6 ≤ L) (hc : cI M z) (hm : mI N z) (kk : ∀ z' M' N', cI M' z' → mI N' z' → LW p e s m below meth c b nc ns x ay 1533 (lL x ay b i) [] M' N') : LW p e s m below meth c b nc ns x ay 1079 (lL x ay b i) [] M N := by
  obtain ⟨z', r, h1, h2⟩ := p_courts (x := x) (y := jy x ay) (xs (i + 1)) hc hm
  refine l_aload_n C (j := 1) (pc := 1079) dL_law_1079 rfl rfl ?_
  refine l_arg C (pc := 1080) (j := 1) dL_law_1080 dL_law_1081 dL_law_1082 dL_law_1083 dL_law_1084 rfl (by omega) ?_
  refine l_callC C (As := [.int (xs (i + 1))]) (st := []) (pc := 1085) dL_law_1085 gm_X11_courts rfl ml_L_138 rfl (Nat.le_of_ble_eq_true rfl) h1 (fun M1 r1 hr1 => ?_)
  obtain ⟨v1, rfl, rfl, hc1⟩ := hr1
  refine l_aload_n C (j := 2) (pc := 1088) dL_law_1088 rfl rfl ?_
  refine l_arg C (pc := 1089) (j := 1) dL_law_1089 dL_law_1090 dL_law_1091 dL_law_1092 dL_law_1093 rfl (by omega) ?_
  refine l_callM C (As := [.int (xs (i + 1))]) (st := [.int v1]) (pc := 1094) dL_law_1094 gm_X12_courts rfl ml_L_141 rfl (Nat.le_of_ble_eq_true rfl) h2 (fun N1 r2 hr2 => ?_)
  obtain ⟨v2, rfl, rfl, hm1⟩ := hr2
  exact l_same C (i := i) (pc := 1097) dL_law_1097 (by decide) (kk _ _ _ hc1 hm1)
theorem v_29 (C : lCx p s m meth c b L xs x nc ns) (hi : i + 6 ≤ L) (hc : cI M z) (hm : mI N z) (kk : ∀ z' M' N', cI M' z' → mI N' z' → LW p e s m below meth c b nc ns x ay 1533 (lL x ay b i) [] M' N') : LW p e s m below meth c b nc ns x ay 1102 (lL x ay b i) [] M N := by
  obtain ⟨z', r, h1, h2⟩ := p_towns (x := x) (y := jy x ay) (xs (i + 1)) hc hm
  refine l_aload_n C (j := 1) (pc := 1102) dL_law_1102 rfl rfl ?_
  refine l_arg C (pc := 1103) (j := 1) dL_law_1103 dL_law_1104 dL_law_1105 dL_law_1106 dL_law_1107 rfl (by omega) ?_
  refine l_callC C (As := [.int (xs (i + 1))]) (st := []) (pc := 1108) dL_law_1108 gm_X11_towns rfl ml_L_142 rfl (Nat.le_of_ble_eq_true rfl) h1 (fun M1 r1 hr1 => ?_)
  obtain ⟨v1, rfl, rfl, hc1⟩ := hr1
  refine l_aload_n C (j := 2) (pc := 1111) dL_law_1111 rfl rfl ?_
  refine l_arg C (pc := 1112) (j := 1) dL_law_1112 dL_law_1113 dL_law_1114 dL_law_1115 dL_law_1116 rfl (by omega) ?_
  refine l_callM C (As := [.int (xs (i + 1))]) (st := [.int v1]) (pc := 1117) dL_law_1117 gm_X12_towns rfl ml_L_145 rfl (Nat.le_of_ble_eq_true rfl) h2 (fun N1 r2 hr2 => ?_)
  obtain ⟨v2, rfl, rfl, hm1⟩ := hr2
  exact l_same C (i := i) (pc := 1120) dL_law_1120 (by decide) (kk _ _ _ hc1 hm1)
theorem v_30 (C : lCx p s m meth c b L xs x nc ns) (hi : i + 6 ≤ L) (hc : cI M z) (hm : mI N z) (kk : ∀ z' M' N', cI M' z' → mI N' z' → LW p e s m below meth c b nc ns x ay 1533 (lL x ay b i) [] M' N') : LW p e s m below meth c b nc ns x ay 1125 (lL x ay b i) [] M N := by
  obtain ⟨z', r, h1, h2⟩ := p_sure (x := x) (y := jy x ay) (xs (i + 1)) (xs (i + 2)) (xs (i + 3)) hc hm
  refine l_aload_n C (j := 1) (pc := 1125) dL_law_1125 rfl rfl ?_
  refine l_arg C (pc := 1126) (j := 1) dL_law_1126 dL_law_1127 dL_law_1128 dL_law_1129 dL_law_1130 rfl (by omega) ?_
  refine l_arg C (pc := 1131) (j := 2) dL_law_1131 dL_law_1132 dL_law_1133 dL_law_1134 dL_law_1135 rfl (by omega) ?_
  refine l_arg C (pc := 1136) (j := 3) dL_law_1136 dL_law_1137 dL_law_1138 dL_law_1139 dL_law_1140 rfl (by omega) ?_
  refine l_callC C (As := [.int (xs (i + 1)), .int (xs (i + 2)), .int (xs (i + 3))]) (st := []) (pc := 1141) dL_law_1141 gm_X11_sure rfl ml_L_146 rfl (Nat.le_of_ble_eq_true rfl) h1 (fun M1 r1 hr1 => ?_)
  obtain ⟨v1, rfl, rfl, hc1⟩ := hr1
  refine l_aload_n C (j := 2) (pc := 1144) dL_law_1144 rfl rfl ?_
  refine l_arg C (pc := 1145) (j := 1) dL_law_1145 dL_law_1146 dL_law_1147 dL_law_1148 dL_law_1149 rfl (by omega) ?_
  refine l_arg C (pc := 1150) (j := 2) dL_law_1150 dL_law_1151 dL_law_1152 dL_law_1153 dL_law_1154 rfl (by omega) ?_
  refine l_arg C (pc := 1155) (j := 3) dL_law_1155 dL_law_1156 dL_law_1157 dL_law_1158 dL_law_1159 rfl (by omega) ?_
  refine l_callM C (As := [.int (xs (i + 1)), .int (xs (i + 2)), .int (xs (i + 3))]) (st := [.int v1]) (pc := 1160) dL_law_1160 gm_X12_sure rfl ml_L_150 rfl (Nat.le_of_ble_eq_true rfl) h2 (fun N1 r2 hr2 => ?_)
  obtain ⟨v2, rfl, rfl, hm1⟩ := hr2
  exact l_same C (i := i) (pc := 1163) dL_law_1163 (by decide) (kk _ _ _ hc1 hm1)
theorem v_31 (C : lCx p s m meth c b L xs x nc ns) (hi : i + 6 ≤ L) (hc : cI M z) (hm : mI N z) (kk : ∀ z' M' N', cI M' z' → mI N' z' → LW p e s m below meth c b nc ns x ay 1533 (lL x ay b i) [] M' N') : LW p e s m below meth c b nc ns x ay 1168 (lL x ay b i) [] M N := by
  obtain ⟨z', r, h1, h2⟩ := p_struck (x := x) (y := jy x ay)  hc hm
  refine l_aload_n C (j := 1) (pc := 1168) dL_law_1168 rfl rfl ?_
  refine l_callC C (As := []) (st := []) (pc := 1169) dL_law_1169 gm_X11_struck rfl ml_L_151 rfl (Nat.le_of_ble_eq_true rfl) h1 (fun M1 r1 hr1 => ?_)
  obtain ⟨v1, rfl, rfl, hc1⟩ := hr1
  refine l_aload_n C (j := 2) (pc := 1172) dL_law_1172 rfl rfl ?_
  refine l_callM C (As := []) (st := [.int v1]) (pc := 1173) dL_law_1173 gm_X12_struck rfl ml_L_154 rfl (Nat.le_of_ble_eq_true rfl) h2 (fun N1 r2 hr2 => ?_)
  obtain ⟨v2, rfl, rfl, hm1⟩ := hr2
  exact l_same C (i := i) (pc := 1176) dL_law_1176 (by decide) (kk _ _ _ hc1 hm1)
theorem v_32 (C : lCx p s m meth c b L xs x nc ns) (hi : i + 6 ≤ L) (hc : cI M z) (hm : mI N z) (kk : ∀ z' M' N', cI M' z' → mI N' z' → LW p e s m below meth c b nc ns x ay 1533 (lL x ay b i) [] M' N') : LW p e s m below meth c b nc ns x ay 1181 (lL x ay b i) [] M N := by
  obtain ⟨z', r, h1, h2⟩ := p_down (x := x) (y := jy x ay) (xs (i + 1)) hc hm
  refine l_aload_n C (j := 1) (pc := 1181) dL_law_1181 rfl rfl ?_
  refine l_arg C (pc := 1182) (j := 1) dL_law_1182 dL_law_1183 dL_law_1184 dL_law_1185 dL_law_1186 rfl (by omega) ?_
  refine l_callC C (As := [.int (xs (i + 1))]) (st := []) (pc := 1187) dL_law_1187 gm_X11_down rfl ml_L_155 rfl (Nat.le_of_ble_eq_true rfl) h1 (fun M1 r1 hr1 => ?_)
  obtain ⟨v1, rfl, rfl, hc1⟩ := hr1
  refine l_aload_n C (j := 2) (pc := 1190) dL_law_1190 rfl rfl ?_
  refine l_arg C (pc := 1191) (j := 1) dL_law_1191 dL_law_1192 dL_law_1193 dL_law_1194 dL_law_1195 rfl (by omega) ?_
  refine l_callM C (As := [.int (xs (i + 1))]) (st := [.int v1]) (pc := 1196) dL_law_1196 gm_X12_down rfl ml_L_158 rfl (Nat.le_of_ble_eq_true rfl) h2 (fun N1 r2 hr2 => ?_)
  obtain ⟨v2, rfl, rfl, hm1⟩ := hr2
  exact l_same C (i := i) (pc := 1199) dL_law_1199 (by decide) (kk _ _ _ hc1 hm1)
theorem v_33 (C : lCx p s m meth c b L xs x nc ns) (hi : i + 6 ≤ L) (hc : cI M z) (hm : mI N z) (kk : ∀ z' M' N', cI M' z' → mI N' z' → LW p e s m below meth c b nc ns x ay 1533 (lL x ay b i) [] M' N') : LW p e s m below meth c b nc ns x ay 1204 (lL x ay b i) [] M N := by
  obtain ⟨z', r, h1, h2⟩ := p_instead (x := x) (y := jy x ay) (xs (i + 1)) hc hm
  refine l_aload_n C (j := 1) (pc := 1204) dL_law_1204 rfl rfl ?_
  refine l_arg C (pc := 1205) (j := 1) dL_law_1205 dL_law_1206 dL_law_1207 dL_law_1208 dL_law_1209 rfl (by omega) ?_
  refine l_callC C (As := [.int (xs (i + 1))]) (st := []) (pc := 1210) dL_law_1210 gm_X11_instead rfl ml_L_159 rfl (Nat.le_of_ble_eq_true rfl) h1 (fun M1 r1 hr1 => ?_)
  obtain ⟨v1, rfl, rfl, hc1⟩ := hr1
  refine l_aload_n C (j := 2) (pc := 1213) dL_law_1213 rfl rfl ?_
  refine l_arg C (pc := 1214) (j := 1) dL_law_1214 dL_law_1215 dL_law_1216 dL_law_1217 dL_law_1218 rfl (by omega) ?_
  refine l_callM C (As := [.int (xs (i + 1))]) (st := [.int v1]) (pc := 1219) dL_law_1219 gm_X12_instead rfl ml_L_162 rfl (Nat.le_of_ble_eq_true rfl) h2 (fun N1 r2 hr2 => ?_)
  obtain ⟨v2, rfl, rfl, hm1⟩ := hr2
  exact l_same C (i := i) (pc := 1222) dL_law_1222 (by decide) (kk _ _ _ hc1 hm1)
theorem v_34 (C : lCx p s m meth c b L xs x nc ns) (hi : i + 6 ≤ L) (hc : cI M z) (hm : mI N z) (kk : ∀ z' M' N', cI M' z' → mI N' z' → LW p e s m below meth c b nc ns x ay 1533 (lL x ay b i) [] M' N') : LW p e s m below meth c b nc ns x ay 1227 (lL x ay b i) [] M N := by
  obtain ⟨z', r, h1, h2⟩ := p_apart (x := x) (y := jy x ay) (xs (i + 1)) (xs (i + 2)) (xs (i + 3)) hc hm
  refine l_aload_n C (j := 1) (pc := 1227) dL_law_1227 rfl rfl ?_
  refine l_arg C (pc := 1228) (j := 1) dL_law_1228 dL_law_1229 dL_law_1230 dL_law_1231 dL_law_1232 rfl (by omega) ?_
  refine l_arg C (pc := 1233) (j := 2) dL_law_1233 dL_law_1234 dL_law_1235 dL_law_1236 dL_law_1237 rfl (by omega) ?_
  refine l_arg C (pc := 1238) (j := 3) dL_law_1238 dL_law_1239 dL_law_1240 dL_law_1241 dL_law_1242 rfl (by omega) ?_
  refine l_callC C (As := [.int (xs (i + 1)), .int (xs (i + 2)), .int (xs (i + 3))]) (st := []) (pc := 1243) dL_law_1243 gm_X11_apart rfl ml_L_163 rfl (Nat.le_of_ble_eq_true rfl) h1 (fun M1 r1 hr1 => ?_)
  obtain ⟨v1, rfl, rfl, hc1⟩ := hr1
  refine l_aload_n C (j := 2) (pc := 1246) dL_law_1246 rfl rfl ?_
  refine l_arg C (pc := 1247) (j := 1) dL_law_1247 dL_law_1248 dL_law_1249 dL_law_1250 dL_law_1251 rfl (by omega) ?_
  refine l_arg C (pc := 1252) (j := 2) dL_law_1252 dL_law_1253 dL_law_1254 dL_law_1255 dL_law_1256 rfl (by omega) ?_
  refine l_arg C (pc := 1257) (j := 3) dL_law_1257 dL_law_1258 dL_law_1259 dL_law_1260 dL_law_1261 rfl (by omega) ?_
  refine l_callM C (As := [.int (xs (i + 1)), .int (xs (i + 2)), .int (xs (i + 3))]) (st := [.int v1]) (pc := 1262) dL_law_1262 gm_X12_apart rfl ml_L_166 rfl (Nat.le_of_ble_eq_true rfl) h2 (fun N1 r2 hr2 => ?_)
  obtain ⟨v2, rfl, rfl, hm1⟩ := hr2
  exact l_same C (i := i) (pc := 1265) dL_law_1265 (by decide) (kk _ _ _ hc1 hm1)
theorem v_35 (C : lCx p s m meth c b L xs x nc ns) (hi : i + 6 ≤ L) (hc : cI M z) (hm : mI N z) (kk : ∀ z' M' N', cI M' z' → mI N' z' → LW p e s m below meth c b nc ns x ay 1533 (lL x ay b i) [] M' N') : LW p e s m below meth c b nc ns x ay 1270 (lL x ay b i) [] M N := by
  obtain ⟨z', r, h1, h2⟩ := p_watchers (x := x) (y := jy x ay) (xs (i + 1)) (xs (i + 2)) hc hm
  refine l_aload_n C (j := 1) (pc := 1270) dL_law_1270 rfl rfl ?_
  refine l_arg C (pc := 1271) (j := 1) dL_law_1271 dL_law_1272 dL_law_1273 dL_law_1274 dL_law_1275 rfl (by omega) ?_
  refine l_arg C (pc := 1276) (j := 2) dL_law_1276 dL_law_1277 dL_law_1278 dL_law_1279 dL_law_1280 rfl (by omega) ?_
  refine l_callC C (As := [.int (xs (i + 1)), .int (xs (i + 2))]) (st := []) (pc := 1281) dL_law_1281 gm_X11_watchers rfl ml_L_167 rfl (Nat.le_of_ble_eq_true rfl) h1 (fun M1 r1 hr1 => ?_)
  obtain ⟨v1, rfl, rfl, hc1⟩ := hr1
  refine l_aload_n C (j := 2) (pc := 1284) dL_law_1284 rfl rfl ?_
  refine l_arg C (pc := 1285) (j := 1) dL_law_1285 dL_law_1286 dL_law_1287 dL_law_1288 dL_law_1289 rfl (by omega) ?_
  refine l_arg C (pc := 1290) (j := 2) dL_law_1290 dL_law_1291 dL_law_1292 dL_law_1293 dL_law_1294 rfl (by omega) ?_
  refine l_callM C (As := [.int (xs (i + 1)), .int (xs (i + 2))]) (st := [.int v1]) (pc := 1295) dL_law_1295 gm_X12_watchers rfl ml_L_170 rfl (Nat.le_of_ble_eq_true rfl) h2 (fun N1 r2 hr2 => ?_)
  obtain ⟨v2, rfl, rfl, hm1⟩ := hr2
  exact l_same C (i := i) (pc := 1298) dL_law_1298 (by decide) (kk _ _ _ hc1 hm1)
theorem v_36 (C : lCx p s m meth c b L xs x nc ns) (hi : i + 6 ≤ L) (hc : cI M z) (hm : mI N z) (kk : ∀ z' M' N', cI M' z' → mI N' z' → LW p e s m below meth c b nc ns x ay 1533 (lL x ay b i) [] M' N') : LW p e s m below meth c b nc ns x ay 1303 (lL x ay b i) [] M N := by
  obtain ⟨z', r, h1, h2⟩ := p_tenth (x := x) (y := jy x ay) (xs (i + 1)) (xs (i + 2)) hc hm
  refine l_aload_n C (j := 1) (pc := 1303) dL_law_1303 rfl rfl ?_
  refine l_arg C (pc := 1304) (j := 1) dL_law_1304 dL_law_1305 dL_law_1306 dL_law_1307 dL_law_1308 rfl (by omega) ?_
  refine l_arg C (pc := 1309) (j := 2) dL_law_1309 dL_law_1310 dL_law_1311 dL_law_1312 dL_law_1313 rfl (by omega) ?_
  refine l_callC C (As := [.int (xs (i + 1)), .int (xs (i + 2))]) (st := []) (pc := 1314) dL_law_1314 gm_X11_tenth rfl ml_L_171 rfl (Nat.le_of_ble_eq_true rfl) h1 (fun M1 r1 hr1 => ?_)
  obtain ⟨v1, rfl, rfl, hc1⟩ := hr1
  refine l_aload_n C (j := 2) (pc := 1317) dL_law_1317 rfl rfl ?_
  refine l_arg C (pc := 1318) (j := 1) dL_law_1318 dL_law_1319 dL_law_1320 dL_law_1321 dL_law_1322 rfl (by omega) ?_
  refine l_arg C (pc := 1323) (j := 2) dL_law_1323 dL_law_1324 dL_law_1325 dL_law_1326 dL_law_1327 rfl (by omega) ?_
  refine l_callM C (As := [.int (xs (i + 1)), .int (xs (i + 2))]) (st := [.int v1]) (pc := 1328) dL_law_1328 gm_X12_tenth rfl ml_L_174 rfl (Nat.le_of_ble_eq_true rfl) h2 (fun N1 r2 hr2 => ?_)
  obtain ⟨v2, rfl, rfl, hm1⟩ := hr2
  exact l_same C (i := i) (pc := 1331) dL_law_1331 (by decide) (kk _ _ _ hc1 hm1)
theorem v_37 (C : lCx p s m meth c b L xs x nc ns) (hi : i + 6 ≤ L) (hc : cI M z) (hm : mI N z) (kk : ∀ z' M' N', cI M' z' → mI N' z' → LW p e s m below meth c b nc ns x ay 1533 (lL x ay b i) [] M' N') : LW p e s m below meth c b nc ns x ay 1336 (lL x ay b i) [] M N := by
  obtain ⟨z', r, h1, h2⟩ := p_order (x := x) (y := jy x ay) (xs (i + 1)) hc hm
  refine l_aload_n C (j := 1) (pc := 1336) dL_law_1336 rfl rfl ?_
  refine l_arg C (pc := 1337) (j := 1) dL_law_1337 dL_law_1338 dL_law_1339 dL_law_1340 dL_law_1341 rfl (by omega) ?_
  refine l_callC C (As := [.int (xs (i + 1))]) (st := []) (pc := 1342) dL_law_1342 gm_X11_order rfl ml_L_175 rfl (Nat.le_of_ble_eq_true rfl) h1 (fun M1 r1 hr1 => ?_)
  obtain ⟨v1, rfl, rfl, hc1⟩ := hr1
  refine l_aload_n C (j := 2) (pc := 1345) dL_law_1345 rfl rfl ?_
  refine l_arg C (pc := 1346) (j := 1) dL_law_1346 dL_law_1347 dL_law_1348 dL_law_1349 dL_law_1350 rfl (by omega) ?_
  refine l_callM C (As := [.int (xs (i + 1))]) (st := [.int v1]) (pc := 1351) dL_law_1351 gm_X12_order rfl ml_L_178 rfl (Nat.le_of_ble_eq_true rfl) h2 (fun N1 r2 hr2 => ?_)
  obtain ⟨v2, rfl, rfl, hm1⟩ := hr2
  exact l_same C (i := i) (pc := 1354) dL_law_1354 (by decide) (kk _ _ _ hc1 hm1)
theorem v_38 (C : lCx p s m meth c b L xs x nc ns) (hi : i + 6 ≤ L) (hc : cI M z) (hm : mI N z) (kk : ∀ z' M' N', cI M' z' → mI N' z' → LW p e s m below meth c b nc ns x ay 1533 (lL x ay b i) [] M' N') : LW p e s m below meth c b nc ns x ay 1359 (lL x ay b i) [] M N := by
  obtain ⟨z', r, h1, h2⟩ := p_orderAt (x := x) (y := jy x ay) (xs (i + 1)) hc hm
  refine l_aload_n C (j := 1) (pc := 1359) dL_law_1359 rfl rfl ?_
  refine l_arg C (pc := 1360) (j := 1) dL_law_1360 dL_law_1361 dL_law_1362 dL_law_1363 dL_law_1364 rfl (by omega) ?_
  refine l_callC C (As := [.int (xs (i + 1))]) (st := []) (pc := 1365) dL_law_1365 gm_X11_orderAt rfl ml_L_179 rfl (Nat.le_of_ble_eq_true rfl) h1 (fun M1 r1 hr1 => ?_)
  obtain ⟨v1, rfl, rfl, hc1⟩ := hr1
  refine l_aload_n C (j := 2) (pc := 1368) dL_law_1368 rfl rfl ?_
  refine l_arg C (pc := 1369) (j := 1) dL_law_1369 dL_law_1370 dL_law_1371 dL_law_1372 dL_law_1373 rfl (by omega) ?_
  refine l_callM C (As := [.int (xs (i + 1))]) (st := [.int v1]) (pc := 1374) dL_law_1374 gm_X12_orderAt rfl ml_L_182 rfl (Nat.le_of_ble_eq_true rfl) h2 (fun N1 r2 hr2 => ?_)
  obtain ⟨v2, rfl, rfl, hm1⟩ := hr2
  exact l_same C (i := i) (pc := 1377) dL_law_1377 (by decide) (kk _ _ _ hc1 hm1)
theorem v_39 (C : lCx p s m meth c b L xs x nc ns) (hi : i + 6 ≤ L) (hc : cI M z) (hm : mI N z) (kk : ∀ z' M' N', cI M' z' → mI N' z' → LW p e s m below meth c b nc ns x ay 1533 (lL x ay b i) [] M' N') : LW p e s m below meth c b nc ns x ay 1382 (lL x ay b i) [] M N := by
  obtain ⟨z', r, h1, h2⟩ := p_like (x := x) (y := jy x ay) (xs (i + 1)) (xs (i + 2)) hc hm
  refine l_aload_n C (j := 1) (pc := 1382) dL_law_1382 rfl rfl ?_
  refine l_arg C (pc := 1383) (j := 1) dL_law_1383 dL_law_1384 dL_law_1385 dL_law_1386 dL_law_1387 rfl (by omega) ?_
  refine l_arg C (pc := 1388) (j := 2) dL_law_1388 dL_law_1389 dL_law_1390 dL_law_1391 dL_law_1392 rfl (by omega) ?_
  refine l_callC C (As := [.int (xs (i + 1)), .int (xs (i + 2))]) (st := []) (pc := 1393) dL_law_1393 gm_X11_like rfl ml_L_183 rfl (Nat.le_of_ble_eq_true rfl) h1 (fun M1 r1 hr1 => ?_)
  obtain ⟨v1, rfl, rfl, hc1⟩ := hr1
  refine l_aload_n C (j := 2) (pc := 1396) dL_law_1396 rfl rfl ?_
  refine l_arg C (pc := 1397) (j := 1) dL_law_1397 dL_law_1398 dL_law_1399 dL_law_1400 dL_law_1401 rfl (by omega) ?_
  refine l_arg C (pc := 1402) (j := 2) dL_law_1402 dL_law_1403 dL_law_1404 dL_law_1405 dL_law_1406 rfl (by omega) ?_
  refine l_callM C (As := [.int (xs (i + 1)), .int (xs (i + 2))]) (st := [.int v1]) (pc := 1407) dL_law_1407 gm_X12_like rfl ml_L_186 rfl (Nat.le_of_ble_eq_true rfl) h2 (fun N1 r2 hr2 => ?_)
  obtain ⟨v2, rfl, rfl, hm1⟩ := hr2
  exact l_same C (i := i) (pc := 1410) dL_law_1410 (by decide) (kk _ _ _ hc1 hm1)
theorem v_40 (C : lCx p s m meth c b L xs x nc ns) (hi : i + 6 ≤ L) (hc : cI M z) (hm : mI N z) (kk : ∀ z' M' N', cI M' z' → mI N' z' → LW p e s m below meth c b nc ns x ay 1533 (lL x ay b i) [] M' N') : LW p e s m below meth c b nc ns x ay 1415 (lL x ay b i) [] M N := by
  obtain ⟨z', r, h1, h2⟩ := p_highest (x := x) (y := jy x ay)  hc hm
  refine l_aload_n C (j := 1) (pc := 1415) dL_law_1415 rfl rfl ?_
  refine l_callC C (As := []) (st := []) (pc := 1416) dL_law_1416 gm_X11_highest rfl ml_L_187 rfl (Nat.le_of_ble_eq_true rfl) h1 (fun M1 r1 hr1 => ?_)
  obtain ⟨v1, rfl, rfl, hc1⟩ := hr1
  refine l_aload_n C (j := 2) (pc := 1419) dL_law_1419 rfl rfl ?_
  refine l_callM C (As := []) (st := [.int v1]) (pc := 1420) dL_law_1420 gm_X12_highest rfl ml_L_190 rfl (Nat.le_of_ble_eq_true rfl) h2 (fun N1 r2 hr2 => ?_)
  obtain ⟨v2, rfl, rfl, hm1⟩ := hr2
  exact l_same C (i := i) (pc := 1423) dL_law_1423 (by decide) (kk _ _ _ hc1 hm1)
theorem v_41 (C : lCx p s m meth c b L xs x nc ns) (hi : i + 6 ≤ L) (hc : cI M z) (hm : mI N z) (kk : ∀ z' M' N', cI M' z' → mI N' z' → LW p e s m below meth c b nc ns x ay 1533 (lL x ay b i) [] M' N') : LW p e s m below meth c b nc ns x ay 1428 (lL x ay b i) [] M N := by
  obtain ⟨z', r, h1, h2⟩ := p_built (x := x) (y := jy x ay) (xs (i + 1)) hc hm
  refine l_aload_n C (j := 1) (pc := 1428) dL_law_1428 rfl rfl ?_
  refine l_arg C (pc := 1429) (j := 1) dL_law_1429 dL_law_1430 dL_law_1431 dL_law_1432 dL_law_1433 rfl (by omega) ?_
  refine l_callC C (As := [.int (xs (i + 1))]) (st := []) (pc := 1434) dL_law_1434 gm_X11_built rfl ml_L_191 rfl (Nat.le_of_ble_eq_true rfl) h1 (fun M1 r1 hr1 => ?_)
  obtain ⟨v1, rfl, rfl, hc1⟩ := hr1
  refine l_aload_n C (j := 2) (pc := 1437) dL_law_1437 rfl rfl ?_
  refine l_arg C (pc := 1438) (j := 1) dL_law_1438 dL_law_1439 dL_law_1440 dL_law_1441 dL_law_1442 rfl (by omega) ?_
  refine l_callM C (As := [.int (xs (i + 1))]) (st := [.int v1]) (pc := 1443) dL_law_1443 gm_X12_built rfl ml_L_194 rfl (Nat.le_of_ble_eq_true rfl) h2 (fun N1 r2 hr2 => ?_)
  obtain ⟨v2, rfl, rfl, hm1⟩ := hr2
  exact l_same C (i := i) (pc := 1446) dL_law_1446 (by decide) (kk _ _ _ hc1 hm1)
theorem v_42 (C : lCx p s m meth c b L xs x nc ns) (hi : i + 6 ≤ L) (hc : cI M z) (hm : mI N z) (kk : ∀ z' M' N', cI M' z' → mI N' z' → LW p e s m below meth c b nc ns x ay 1533 (lL x ay b i) [] M' N') : LW p e s m below meth c b nc ns x ay 1451 (lL x ay b i) [] M N := by
  obtain ⟨z', r, h1, h2⟩ := p_building (x := x) (y := jy x ay) (xs (i + 1)) hc hm
  refine l_aload_n C (j := 1) (pc := 1451) dL_law_1451 rfl rfl ?_
  refine l_arg C (pc := 1452) (j := 1) dL_law_1452 dL_law_1453 dL_law_1454 dL_law_1455 dL_law_1456 rfl (by omega) ?_
  refine l_callC C (As := [.int (xs (i + 1))]) (st := []) (pc := 1457) dL_law_1457 gm_X11_building rfl ml_L_195 rfl (Nat.le_of_ble_eq_true rfl) h1 (fun M1 r1 hr1 => ?_)
  obtain ⟨v1, rfl, rfl, hc1⟩ := hr1
  refine l_aload_n C (j := 2) (pc := 1460) dL_law_1460 rfl rfl ?_
  refine l_arg C (pc := 1461) (j := 1) dL_law_1461 dL_law_1462 dL_law_1463 dL_law_1464 dL_law_1465 rfl (by omega) ?_
  refine l_callM C (As := [.int (xs (i + 1))]) (st := [.int v1]) (pc := 1466) dL_law_1466 gm_X12_building rfl ml_L_198 rfl (Nat.le_of_ble_eq_true rfl) h2 (fun N1 r2 hr2 => ?_)
  obtain ⟨v2, rfl, rfl, hm1⟩ := hr2
  exact l_same C (i := i) (pc := 1469) dL_law_1469 (by decide) (kk _ _ _ hc1 hm1)
theorem v_43 (C : lCx p s m meth c b L xs x nc ns) (hi : i + 6 ≤ L) (hc : cI M z) (hm : mI N z) (kk : ∀ z' M' N', cI M' z' → mI N' z' → LW p e s m below meth c b nc ns x ay 1533 (lL x ay b i) [] M' N') : LW p e s m below meth c b nc ns x ay 1474 (lL x ay b i) [] M N := by
  obtain ⟨z', r, h1, h2⟩ := p_tally (x := x) (y := jy x ay) (xs (i + 1)) (xs (i + 2)) hc hm
  refine l_aload_n C (j := 1) (pc := 1474) dL_law_1474 rfl rfl ?_
  refine l_arg C (pc := 1475) (j := 1) dL_law_1475 dL_law_1476 dL_law_1477 dL_law_1478 dL_law_1479 rfl (by omega) ?_
  refine l_arg C (pc := 1480) (j := 2) dL_law_1480 dL_law_1481 dL_law_1482 dL_law_1483 dL_law_1484 rfl (by omega) ?_
  refine l_callC C (As := [.int (xs (i + 1)), .int (xs (i + 2))]) (st := []) (pc := 1485) dL_law_1485 gm_X11_tally rfl ml_L_199 rfl (Nat.le_of_ble_eq_true rfl) h1 (fun M1 r1 hr1 => ?_)
  obtain ⟨v1, rfl, rfl, hc1⟩ := hr1
  refine l_aload_n C (j := 2) (pc := 1488) dL_law_1488 rfl rfl ?_
  refine l_arg C (pc := 1489) (j := 1) dL_law_1489 dL_law_1490 dL_law_1491 dL_law_1492 dL_law_1493 rfl (by omega) ?_
  refine l_arg C (pc := 1494) (j := 2) dL_law_1494 dL_law_1495 dL_law_1496 dL_law_1497 dL_law_1498 rfl (by omega) ?_
  refine l_callM C (As := [.int (xs (i + 1)), .int (xs (i + 2))]) (st := [.int v1]) (pc := 1499) dL_law_1499 gm_X12_tally rfl ml_L_202 rfl (Nat.le_of_ble_eq_true rfl) h2 (fun N1 r2 hr2 => ?_)
  obtain ⟨v2, rfl, rfl, hm1⟩ := hr2
  exact l_same C (i := i) (pc := 1502) dL_law_1502 (by decide) (kk _ _ _ hc1 hm1)
theorem v_44 (C : lCx p s m meth c b L xs x nc ns) (hi : i + 6 ≤ L) (hc : cI M z) (hm : mI N z) (kk : ∀ z' M' N', cI M' z' → mI N' z' → LW p e s m below meth c b nc ns x ay 1533 (lL x ay b i) [] M' N') : LW p e s m below meth c b nc ns x ay 1507 (lL x ay b i) [] M N := by
  obtain ⟨z', r, h1, h2⟩ := p_mark (x := x) (y := jy x ay)  hc hm
  refine l_aload_n C (j := 1) (pc := 1507) dL_law_1507 rfl rfl ?_
  refine l_callC C (As := []) (st := []) (pc := 1508) dL_law_1508 gm_X11_mark rfl ml_L_203 rfl (Nat.le_of_ble_eq_true rfl) h1 (fun M1 r1 hr1 => ?_)
  obtain ⟨v1, rfl, rfl, hc1⟩ := hr1
  refine l_aload_n C (j := 2) (pc := 1511) dL_law_1511 rfl rfl ?_
  refine l_callM C (As := []) (st := [.int v1]) (pc := 1512) dL_law_1512 gm_X12_mark rfl ml_L_206 rfl (Nat.le_of_ble_eq_true rfl) h2 (fun N1 r2 hr2 => ?_)
  obtain ⟨v2, rfl, rfl, hm1⟩ := hr2
  exact l_same C (i := i) (pc := 1515) dL_law_1515 (by decide) (kk _ _ _ hc1 hm1)
theorem v_45 (C : lCx p s m meth c b L xs x nc ns) (hi : i + 6 ≤ L) (hc : cI M z) (hm : mI N z) (kk : ∀ z' M' N', cI M' z' → mI N' z' → LW p e s m below meth c b nc ns x ay 1533 (lL x ay b i) [] M' N') : LW p e s m below meth c b nc ns x ay 1520 (lL x ay b i) [] M N := by
  obtain ⟨z', r, h1, h2⟩ := p_back (x := x) (y := jy x ay)  hc hm
  refine l_aload_n C (j := 1) (pc := 1520) dL_law_1520 rfl rfl ?_
  refine l_callC C (As := []) (st := []) (pc := 1521) dL_law_1521 gm_X11_back rfl ml_L_207 rfl (Nat.le_of_ble_eq_true rfl) h1 (fun M1 r1 hr1 => ?_)
  obtain ⟨v1, rfl, rfl, hc1⟩ := hr1
  refine l_aload_n C (j := 2) (pc := 1524) dL_law_1524 rfl rfl ?_
  refine l_callM C (As := []) (st := [.int v1]) (pc := 1525) dL_law_1525 gm_X12_back rfl ml_L_210 rfl (Nat.le_of_ble_eq_true rfl) h2 (fun N1 r2 hr2 => ?_)
  obtain ⟨v2, rfl, rfl, hm1⟩ := hr2
  exact l_same C (i := i) (pc := 1528) dL_law_1528 (by decide) (kk _ _ _ hc1 hm1)
end LCS
