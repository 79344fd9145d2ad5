section LC
variable {p : Program} {l : Launch} {e : Env} {s : State} {m : MethodId} {below : List Frame} {meth : Method} {c : Code} {Q : State → Prop} {b L : Nat} {xs : Nat → Int32} {GD GM : gT} {i : Int32} {σ τ : sg}
/-- deed -/
theorem law_c0 (K : LK p s m c b L xs GD GM) (h0 : ∀ σ9 τ9 : sg, RG σ9 τ9 → WD σ9 → WM τ9 → LW p l e s m below meth c Q b GD GM i 1524 [] σ9 τ9) (hR : RG σ τ) (hD : WD σ) (hM : WM τ) (hin : ∀ v : Int32, 0 ≤ v.toInt → v.toInt ≤ 5 → vp_in (i + v) L) : LW p l e s m below meth c Q b GD GM i 240 [] σ τ := by
  refine l_x K dL_law_240 ?_
  refine l_arg K 1 1 (by decide) (hin 1 (by decide) (by decide)) dL_law_241 dL_law_242 dL_law_243 dL_law_244 dL_law_245 ?_
  refine l_arg K 2 2 (by decide) (hin 2 (by decide) (by decide)) dL_law_246 dL_law_247 dL_law_248 dL_law_249 dL_law_250 ?_
  refine l_callX (n := 2) K (kX4_deed l K.2.2.2.2.2.2.2.2.1.1 K.2.2.2.2.2.2.2.2.2.1.1 _ _ σ hD) gL_law_X4_deed rfl ⟨rfl, by decide, by decide, by decide +kernel⟩ ⟨Nat.le_of_ble_eq_true rfl, Nat.le_of_ble_eq_true rfl⟩ rfl rfl rfl rfl (by decide) dL_law_251 ?_
  refine l_m K dL_law_254 ?_
  refine l_arg K 1 1 (by decide) (hin 1 (by decide) (by decide)) dL_law_255 dL_law_256 dL_law_257 dL_law_258 dL_law_259 ?_
  refine l_arg K 2 2 (by decide) (hin 2 (by decide) (by decide)) dL_law_260 dL_law_261 dL_law_262 dL_law_263 dL_law_264 ?_
  refine l_callM (n := 2) K (kX5_deed l K.2.2.2.2.2.2.2.2.1.2 K.2.2.2.2.2.2.2.2.2.1.2 _ _ τ hM) gL_law_X5_deed rfl ⟨rfl, by decide, by decide, by decide +kernel⟩ ⟨Nat.le_of_ble_eq_true rfl, Nat.le_of_ble_eq_true rfl⟩ rfl rfl rfl rfl (by simp only [List.map, List.sum_cons, List.sum_nil, Value.category]; decide) dL_law_265 ?_
  have r := m_deed hR (xs (i + 1).toNatClampNeg) (xs (i + 2).toNatClampNeg)
  refine l_cmp K r.1 dL_law_268 (by decide) ?_
  exact h0 _ _ r.2 (wX4_deed _ _ hD) (wX5_deed _ _ hM)
/-- of -/
theorem law_c1 (K : LK p s m c b L xs GD GM) (h0 : ∀ σ9 τ9 : sg, RG σ9 τ9 → WD σ9 → WM τ9 → LW p l e s m below meth c Q b GD GM i 1524 [] σ9 τ9) (hR : RG σ τ) (hD : WD σ) (hM : WM τ) (hin : ∀ v : Int32, 0 ≤ v.toInt → v.toInt ≤ 5 → vp_in (i + v) L) : LW p l e s m below meth c Q b GD GM i 273 [] σ τ := by
  refine l_x K dL_law_273 ?_
  refine l_arg K 1 1 (by decide) (hin 1 (by decide) (by decide)) dL_law_274 dL_law_275 dL_law_276 dL_law_277 dL_law_278 ?_
  refine l_arg K 2 2 (by decide) (hin 2 (by decide) (by decide)) dL_law_279 dL_law_280 dL_law_281 dL_law_282 dL_law_283 ?_
  refine l_callX (n := 2) K (kX4_of l K.2.2.2.2.2.2.2.2.1.1 K.2.2.2.2.2.2.2.2.2.1.1 _ _ σ hD) gL_law_X4_of rfl ⟨rfl, by decide, by decide, by decide +kernel⟩ ⟨Nat.le_of_ble_eq_true rfl, Nat.le_of_ble_eq_true rfl⟩ rfl rfl rfl rfl (by decide) dL_law_284 ?_
  refine l_m K dL_law_287 ?_
  refine l_arg K 1 1 (by decide) (hin 1 (by decide) (by decide)) dL_law_288 dL_law_289 dL_law_290 dL_law_291 dL_law_292 ?_
  refine l_arg K 2 2 (by decide) (hin 2 (by decide) (by decide)) dL_law_293 dL_law_294 dL_law_295 dL_law_296 dL_law_297 ?_
  refine l_callM (n := 2) K (kX5_of l K.2.2.2.2.2.2.2.2.1.2 K.2.2.2.2.2.2.2.2.2.1.2 _ _ τ hM) gL_law_X5_of rfl ⟨rfl, by decide, by decide, by decide +kernel⟩ ⟨Nat.le_of_ble_eq_true rfl, Nat.le_of_ble_eq_true rfl⟩ rfl rfl rfl rfl (by simp only [List.map, List.sum_cons, List.sum_nil, Value.category]; decide) dL_law_298 ?_
  have r := m_of hR (xs (i + 1).toNatClampNeg) (xs (i + 2).toNatClampNeg)
  refine l_cmp K r.1 dL_law_301 (by decide) ?_
  exact h0 _ _ r.2 (wX4_of _ _ hD) (wX5_of _ _ hM)
/-- change -/
theorem law_c2 (K : LK p s m c b L xs GD GM) (h0 : ∀ σ9 τ9 : sg, RG σ9 τ9 → WD σ9 → WM τ9 → LW p l e s m below meth c Q b GD GM i 1524 [] σ9 τ9) (hR : RG σ τ) (hD : WD σ) (hM : WM τ) (hin : ∀ v : Int32, 0 ≤ v.toInt → v.toInt ≤ 5 → vp_in (i + v) L) : LW p l e s m below meth c Q b GD GM i 306 [] σ τ := by
  refine l_x K dL_law_306 ?_
  refine l_arg K 1 1 (by decide) (hin 1 (by decide) (by decide)) dL_law_307 dL_law_308 dL_law_309 dL_law_310 dL_law_311 ?_
  refine l_arg K 2 2 (by decide) (hin 2 (by decide) (by decide)) dL_law_312 dL_law_313 dL_law_314 dL_law_315 dL_law_316 ?_
  refine l_arg K 3 3 (by decide) (hin 3 (by decide) (by decide)) dL_law_317 dL_law_318 dL_law_319 dL_law_320 dL_law_321 ?_
  refine l_callX (n := 3) K (kX4_change l K.2.2.2.2.2.2.2.2.1.1 K.2.2.2.2.2.2.2.2.2.1.1 _ _ _ σ hD) gL_law_X4_change rfl ⟨rfl, by decide, by decide, by decide +kernel⟩ ⟨Nat.le_of_ble_eq_true rfl, Nat.le_of_ble_eq_true rfl⟩ rfl rfl rfl rfl (by decide) dL_law_322 ?_
  refine l_m K dL_law_325 ?_
  refine l_arg K 1 1 (by decide) (hin 1 (by decide) (by decide)) dL_law_326 dL_law_327 dL_law_328 dL_law_329 dL_law_330 ?_
  refine l_arg K 2 2 (by decide) (hin 2 (by decide) (by decide)) dL_law_331 dL_law_332 dL_law_333 dL_law_334 dL_law_335 ?_
  refine l_arg K 3 3 (by decide) (hin 3 (by decide) (by decide)) dL_law_336 dL_law_337 dL_law_338 dL_law_339 dL_law_340 ?_
  refine l_callM (n := 3) K (kX5_change l K.2.2.2.2.2.2.2.2.1.2 K.2.2.2.2.2.2.2.2.2.1.2 _ _ _ τ hM) gL_law_X5_change rfl ⟨rfl, by decide, by decide, by decide +kernel⟩ ⟨Nat.le_of_ble_eq_true rfl, Nat.le_of_ble_eq_true rfl⟩ rfl rfl rfl rfl (by simp only [List.map, List.sum_cons, List.sum_nil, Value.category]; decide) dL_law_341 ?_
  have r := m_change hR (xs (i + 1).toNatClampNeg) (xs (i + 2).toNatClampNeg) (xs (i + 3).toNatClampNeg)
  refine l_cmp K r.1 dL_law_344 (by decide) ?_
  exact h0 _ _ r.2 (wX4_change _ _ _ hD) (wX5_change _ _ _ hM)
/-- renew -/
theorem law_c3 (K : LK p s m c b L xs GD GM) (h0 : ∀ σ9 τ9 : sg, RG σ9 τ9 → WD σ9 → WM τ9 → LW p l e s m below meth c Q b GD GM i 1524 [] σ9 τ9) (hR : RG σ τ) (hD : WD σ) (hM : WM τ) (hin : ∀ v : Int32, 0 ≤ v.toInt → v.toInt ≤ 5 → vp_in (i + v) L) : LW p l e s m below meth c Q b GD GM i 349 [] σ τ := by
  refine l_x K dL_law_349 ?_
  refine l_arg K 1 1 (by decide) (hin 1 (by decide) (by decide)) dL_law_350 dL_law_351 dL_law_352 dL_law_353 dL_law_354 ?_
  refine l_callX (n := 1) K (kX4_renew l K.2.2.2.2.2.2.2.2.1.1 K.2.2.2.2.2.2.2.2.2.1.1 _ σ hD) gL_law_X4_renew rfl ⟨rfl, by decide, by decide, by decide +kernel⟩ ⟨Nat.le_of_ble_eq_true rfl, Nat.le_of_ble_eq_true rfl⟩ rfl rfl rfl rfl (by decide) dL_law_355 ?_
  refine l_m K dL_law_358 ?_
  refine l_arg K 1 1 (by decide) (hin 1 (by decide) (by decide)) dL_law_359 dL_law_360 dL_law_361 dL_law_362 dL_law_363 ?_
  refine l_callM (n := 1) K (kX5_renew l K.2.2.2.2.2.2.2.2.1.2 K.2.2.2.2.2.2.2.2.2.1.2 _ τ hM) gL_law_X5_renew rfl ⟨rfl, by decide, by decide, by decide +kernel⟩ ⟨Nat.le_of_ble_eq_true rfl, Nat.le_of_ble_eq_true rfl⟩ rfl rfl rfl rfl (by simp only [List.map, List.sum_cons, List.sum_nil, Value.category]; decide) dL_law_364 ?_
  have r := m_renew hR (xs (i + 1).toNatClampNeg)
  refine l_cmp K r.1 dL_law_367 (by decide) ?_
  exact h0 _ _ r.2 (wX4_renew _ hD) (wX5_renew _ hM)
/-- shelf -/
theorem law_c4 (K : LK p s m c b L xs GD GM) (h0 : ∀ σ9 τ9 : sg, RG σ9 τ9 → WD σ9 → WM τ9 → LW p l e s m below meth c Q b GD GM i 1524 [] σ9 τ9) (hR : RG σ τ) (hD : WD σ) (hM : WM τ) (hin : ∀ v : Int32, 0 ≤ v.toInt → v.toInt ≤ 5 → vp_in (i + v) L) : LW p l e s m below meth c Q b GD GM i 372 [] σ τ := by
  refine l_x K dL_law_372 ?_
  refine l_arg K 1 1 (by decide) (hin 1 (by decide) (by decide)) dL_law_373 dL_law_374 dL_law_375 dL_law_376 dL_law_377 ?_
  refine l_arg K 2 2 (by decide) (hin 2 (by decide) (by decide)) dL_law_378 dL_law_379 dL_law_380 dL_law_381 dL_law_382 ?_
  refine l_arg K 3 3 (by decide) (hin 3 (by decide) (by decide)) dL_law_383 dL_law_384 dL_law_385 dL_law_386 dL_law_387 ?_
  refine l_callX (n := 3) K (kX4_shelf l K.2.2.2.2.2.2.2.2.1.1 K.2.2.2.2.2.2.2.2.2.1.1 _ _ _ σ hD) gL_law_X4_shelf rfl ⟨rfl, by decide, by decide, by decide +kernel⟩ ⟨Nat.le_of_ble_eq_true rfl, Nat.le_of_ble_eq_true rfl⟩ rfl rfl rfl rfl (by decide) dL_law_388 ?_
  refine l_m K dL_law_391 ?_
  refine l_arg K 1 1 (by decide) (hin 1 (by decide) (by decide)) dL_law_392 dL_law_393 dL_law_394 dL_law_395 dL_law_396 ?_
  refine l_arg K 2 2 (by decide) (hin 2 (by decide) (by decide)) dL_law_397 dL_law_398 dL_law_399 dL_law_400 dL_law_401 ?_
  refine l_arg K 3 3 (by decide) (hin 3 (by decide) (by decide)) dL_law_402 dL_law_403 dL_law_404 dL_law_405 dL_law_406 ?_
  refine l_callM (n := 3) K (kX5_shelf l K.2.2.2.2.2.2.2.2.1.2 K.2.2.2.2.2.2.2.2.2.1.2 _ _ _ τ hM) gL_law_X5_shelf rfl ⟨rfl, by decide, by decide, by decide +kernel⟩ ⟨Nat.le_of_ble_eq_true rfl, Nat.le_of_ble_eq_true rfl⟩ rfl rfl rfl rfl (by simp only [List.map, List.sum_cons, List.sum_nil, Value.category]; decide) dL_law_407 ?_
  have r := m_shelf hR (xs (i + 1).toNatClampNeg) (xs (i + 2).toNatClampNeg) (xs (i + 3).toNatClampNeg)
  refine l_cmp K r.1 dL_law_410 (by decide) ?_
  exact h0 _ _ r.2 (wX4_shelf _ _ _ hD) (wX5_shelf _ _ _ hM)
/-- summer -/
theorem law_c5 (K : LK p s m c b L xs GD GM) (h0 : ∀ σ9 τ9 : sg, RG σ9 τ9 → WD σ9 → WM τ9 → LW p l e s m below meth c Q b GD GM i 1524 [] σ9 τ9) (hR : RG σ τ) (hD : WD σ) (hM : WM τ) (hin : ∀ v : Int32, 0 ≤ v.toInt → v.toInt ≤ 5 → vp_in (i + v) L) : LW p l e s m below meth c Q b GD GM i 415 [] σ τ := by
  refine l_x K dL_law_415 ?_
  refine l_arg K 1 1 (by decide) (hin 1 (by decide) (by decide)) dL_law_416 dL_law_417 dL_law_418 dL_law_419 dL_law_420 ?_
  refine l_callX (n := 1) K (kX4_summer l K.2.2.2.2.2.2.2.2.1.1 K.2.2.2.2.2.2.2.2.2.1.1 _ σ hD) gL_law_X4_summer rfl ⟨rfl, by decide, by decide, by decide +kernel⟩ ⟨Nat.le_of_ble_eq_true rfl, Nat.le_of_ble_eq_true rfl⟩ rfl rfl rfl rfl (by decide) dL_law_421 ?_
  refine l_m K dL_law_424 ?_
  refine l_arg K 1 1 (by decide) (hin 1 (by decide) (by decide)) dL_law_425 dL_law_426 dL_law_427 dL_law_428 dL_law_429 ?_
  refine l_callM (n := 1) K (kX5_summer l K.2.2.2.2.2.2.2.2.1.2 K.2.2.2.2.2.2.2.2.2.1.2 _ τ hM) gL_law_X5_summer rfl ⟨rfl, by decide, by decide, by decide +kernel⟩ ⟨Nat.le_of_ble_eq_true rfl, Nat.le_of_ble_eq_true rfl⟩ rfl rfl rfl rfl (by simp only [List.map, List.sum_cons, List.sum_nil, Value.category]; decide) dL_law_430 ?_
  have r := m_summer hR (xs (i + 1).toNatClampNeg)
  refine l_cmp K r.1 dL_law_433 (by decide) ?_
  exact h0 _ _ r.2 (wX4_summer _ hD) (wX5_summer _ hM)
/-- sun -/
theorem law_c6 (K : LK p s m c b L xs GD GM) (h0 : ∀ σ9 τ9 : sg, RG σ9 τ9 → WD σ9 → WM τ9 → LW p l e s m below meth c Q b GD GM i 1524 [] σ9 τ9) (hR : RG σ τ) (hD : WD σ) (hM : WM τ) (hin : ∀ v : Int32, 0 ≤ v.toInt → v.toInt ≤ 5 → vp_in (i + v) L) : LW p l e s m below meth c Q b GD GM i 438 [] σ τ := by
  refine l_x K dL_law_438 ?_
  refine l_arg K 1 1 (by decide) (hin 1 (by decide) (by decide)) dL_law_439 dL_law_440 dL_law_441 dL_law_442 dL_law_443 ?_
  refine l_callX (n := 1) K (kX4_sun l K.2.2.2.2.2.2.2.2.1.1 K.2.2.2.2.2.2.2.2.2.1.1 _ σ hD) gL_law_X4_sun rfl ⟨rfl, by decide, by decide, by decide +kernel⟩ ⟨Nat.le_of_ble_eq_true rfl, Nat.le_of_ble_eq_true rfl⟩ rfl rfl rfl rfl (by decide) dL_law_444 ?_
  refine l_m K dL_law_447 ?_
  refine l_arg K 1 1 (by decide) (hin 1 (by decide) (by decide)) dL_law_448 dL_law_449 dL_law_450 dL_law_451 dL_law_452 ?_
  refine l_callM (n := 1) K (kX5_sun l K.2.2.2.2.2.2.2.2.1.2 K.2.2.2.2.2.2.2.2.2.1.2 _ τ hM) gL_law_X5_sun rfl ⟨rfl, by decide, by decide, by decide +kernel⟩ ⟨Nat.le_of_ble_eq_true rfl, Nat.le_of_ble_eq_true rfl⟩ rfl rfl rfl rfl (by simp only [List.map, List.sum_cons, List.sum_nil, Value.category]; decide) dL_law_453 ?_
  have r := m_sun hR (xs (i + 1).toNatClampNeg)
  refine l_cmp K r.1 dL_law_456 (by decide) ?_
  exact h0 _ _ r.2 (wX4_sun _ hD) (wX5_sun _ hM)
/-- heat -/
theorem law_c7 (K : LK p s m c b L xs GD GM) (h0 : ∀ σ9 τ9 : sg, RG σ9 τ9 → WD σ9 → WM τ9 → LW p l e s m below meth c Q b GD GM i 1524 [] σ9 τ9) (hR : RG σ τ) (hD : WD σ) (hM : WM τ) (hin : ∀ v : Int32, 0 ≤ v.toInt → v.toInt ≤ 5 → vp_in (i + v) L) : LW p l e s m below meth c Q b GD GM i 461 [] σ τ := by
  refine l_x K dL_law_461 ?_
  refine l_arg K 1 1 (by decide) (hin 1 (by decide) (by decide)) dL_law_462 dL_law_463 dL_law_464 dL_law_465 dL_law_466 ?_
  refine l_arg K 2 2 (by decide) (hin 2 (by decide) (by decide)) dL_law_467 dL_law_468 dL_law_469 dL_law_470 dL_law_471 ?_
  refine l_callX (n := 2) K (kX4_heat l K.2.2.2.2.2.2.2.2.1.1 K.2.2.2.2.2.2.2.2.2.1.1 _ _ σ hD) gL_law_X4_heat rfl ⟨rfl, by decide, by decide, by decide +kernel⟩ ⟨Nat.le_of_ble_eq_true rfl, Nat.le_of_ble_eq_true rfl⟩ rfl rfl rfl rfl (by decide) dL_law_472 ?_
  refine l_m K dL_law_475 ?_
  refine l_arg K 1 1 (by decide) (hin 1 (by decide) (by decide)) dL_law_476 dL_law_477 dL_law_478 dL_law_479 dL_law_480 ?_
  refine l_arg K 2 2 (by decide) (hin 2 (by decide) (by decide)) dL_law_481 dL_law_482 dL_law_483 dL_law_484 dL_law_485 ?_
  refine l_callM (n := 2) K (kX5_heat l K.2.2.2.2.2.2.2.2.1.2 K.2.2.2.2.2.2.2.2.2.1.2 _ _ τ hM) gL_law_X5_heat rfl ⟨rfl, by decide, by decide, by decide +kernel⟩ ⟨Nat.le_of_ble_eq_true rfl, Nat.le_of_ble_eq_true rfl⟩ rfl rfl rfl rfl (by simp only [List.map, List.sum_cons, List.sum_nil, Value.category]; decide) dL_law_486 ?_
  have r := m_heat hR (xs (i + 1).toNatClampNeg) (xs (i + 2).toNatClampNeg)
  refine l_cmp K r.1 dL_law_489 (by decide) ?_
  exact h0 _ _ r.2 (wX4_heat _ _ hD) (wX5_heat _ _ hM)
/-- lie -/
theorem law_c8 (K : LK p s m c b L xs GD GM) (h0 : ∀ σ9 τ9 : sg, RG σ9 τ9 → WD σ9 → WM τ9 → LW p l e s m below meth c Q b GD GM i 1524 [] σ9 τ9) (hR : RG σ τ) (hD : WD σ) (hM : WM τ) (hin : ∀ v : Int32, 0 ≤ v.toInt → v.toInt ≤ 5 → vp_in (i + v) L) : LW p l e s m below meth c Q b GD GM i 494 [] σ τ := by
  refine l_x K dL_law_494 ?_
  refine l_arg K 1 1 (by decide) (hin 1 (by decide) (by decide)) dL_law_495 dL_law_496 dL_law_497 dL_law_498 dL_law_499 ?_
  refine l_callX (n := 1) K (kX4_lie l K.2.2.2.2.2.2.2.2.1.1 K.2.2.2.2.2.2.2.2.2.1.1 _ σ hD) gL_law_X4_lie rfl ⟨rfl, by decide, by decide, by decide +kernel⟩ ⟨Nat.le_of_ble_eq_true rfl, Nat.le_of_ble_eq_true rfl⟩ rfl rfl rfl rfl (by decide) dL_law_500 ?_
  refine l_m K dL_law_503 ?_
  refine l_arg K 1 1 (by decide) (hin 1 (by decide) (by decide)) dL_law_504 dL_law_505 dL_law_506 dL_law_507 dL_law_508 ?_
  refine l_callM (n := 1) K (kX5_lie l K.2.2.2.2.2.2.2.2.1.2 K.2.2.2.2.2.2.2.2.2.1.2 _ τ hM) gL_law_X5_lie rfl ⟨rfl, by decide, by decide, by decide +kernel⟩ ⟨Nat.le_of_ble_eq_true rfl, Nat.le_of_ble_eq_true rfl⟩ rfl rfl rfl rfl (by simp only [List.map, List.sum_cons, List.sum_nil, Value.category]; decide) dL_law_509 ?_
  have r := m_lie hR (xs (i + 1).toNatClampNeg)
  refine l_cmp K r.1 dL_law_512 (by decide) ?_
  exact h0 _ _ r.2 (wX4_lie _ hD) (wX5_lie _ hM)
/-- hours -/
theorem law_c9 (K : LK p s m c b L xs GD GM) (h0 : ∀ σ9 τ9 : sg, RG σ9 τ9 → WD σ9 → WM τ9 → LW p l e s m below meth c Q b GD GM i 1524 [] σ9 τ9) (hR : RG σ τ) (hD : WD σ) (hM : WM τ) (hin : ∀ v : Int32, 0 ≤ v.toInt → v.toInt ≤ 5 → vp_in (i + v) L) : LW p l e s m below meth c Q b GD GM i 517 [] σ τ := by
  refine l_x K dL_law_517 ?_
  refine l_arg K 1 1 (by decide) (hin 1 (by decide) (by decide)) dL_law_518 dL_law_519 dL_law_520 dL_law_521 dL_law_522 ?_
  refine l_callX (n := 1) K (kX4_hours l K.2.2.2.2.2.2.2.2.1.1 K.2.2.2.2.2.2.2.2.2.1.1 _ σ hD) gL_law_X4_hours rfl ⟨rfl, by decide, by decide, by decide +kernel⟩ ⟨Nat.le_of_ble_eq_true rfl, Nat.le_of_ble_eq_true rfl⟩ rfl rfl rfl rfl (by decide) dL_law_523 ?_
  refine l_m K dL_law_526 ?_
  refine l_arg K 1 1 (by decide) (hin 1 (by decide) (by decide)) dL_law_527 dL_law_528 dL_law_529 dL_law_530 dL_law_531 ?_
  refine l_callM (n := 1) K (kX5_hours l K.2.2.2.2.2.2.2.2.1.2 K.2.2.2.2.2.2.2.2.2.1.2 _ τ hM) gL_law_X5_hours rfl ⟨rfl, by decide, by decide, by decide +kernel⟩ ⟨Nat.le_of_ble_eq_true rfl, Nat.le_of_ble_eq_true rfl⟩ rfl rfl rfl rfl (by simp only [List.map, List.sum_cons, List.sum_nil, Value.category]; decide) dL_law_532 ?_
  have r := m_hours hR (xs (i + 1).toNatClampNeg)
  refine l_cmp K r.1 dL_law_535 (by decide) ?_
  exact h0 _ _ r.2 (wX4_hours _ hD) (wX5_hours _ hM)
/-- now -/
theorem law_c10 (K : LK p s m c b L xs GD GM) (h0 : ∀ σ9 τ9 : sg, RG σ9 τ9 → WD σ9 → WM τ9 → LW p l e s m below meth c Q b GD GM i 1524 [] σ9 τ9) (hR : RG σ τ) (hD : WD σ) (hM : WM τ) (hin : ∀ v : Int32, 0 ≤ v.toInt → v.toInt ≤ 5 → vp_in (i + v) L) : LW p l e s m below meth c Q b GD GM i 540 [] σ τ := by
  refine l_x K dL_law_540 ?_
  refine l_arg K 1 1 (by decide) (hin 1 (by decide) (by decide)) dL_law_541 dL_law_542 dL_law_543 dL_law_544 dL_law_545 ?_
  refine l_callX (n := 1) K (kX4_now l K.2.2.2.2.2.2.2.2.1.1 K.2.2.2.2.2.2.2.2.2.1.1 _ σ hD) gL_law_X4_now rfl ⟨rfl, by decide, by decide, by decide +kernel⟩ ⟨Nat.le_of_ble_eq_true rfl, Nat.le_of_ble_eq_true rfl⟩ rfl rfl rfl rfl (by decide) dL_law_546 ?_
  refine l_m K dL_law_549 ?_
  refine l_arg K 1 1 (by decide) (hin 1 (by decide) (by decide)) dL_law_550 dL_law_551 dL_law_552 dL_law_553 dL_law_554 ?_
  refine l_callM (n := 1) K (kX5_now l K.2.2.2.2.2.2.2.2.1.2 K.2.2.2.2.2.2.2.2.2.1.2 _ τ hM) gL_law_X5_now rfl ⟨rfl, by decide, by decide, by decide +kernel⟩ ⟨Nat.le_of_ble_eq_true rfl, Nat.le_of_ble_eq_true rfl⟩ rfl rfl rfl rfl (by simp only [List.map, List.sum_cons, List.sum_nil, Value.category]; decide) dL_law_555 ?_
  have r := m_now hR (xs (i + 1).toNatClampNeg)
  refine l_cmp K r.1 dL_law_558 (by decide) ?_
  exact h0 _ _ r.2 (wX4_now _ hD) (wX5_now _ hM)
/-- ahead -/
theorem law_c11 (K : LK p s m c b L xs GD GM) (h0 : ∀ σ9 τ9 : sg, RG σ9 τ9 → WD σ9 → WM τ9 → LW p l e s m below meth c Q b GD GM i 1524 [] σ9 τ9) (hR : RG σ τ) (hD : WD σ) (hM : WM τ) (hin : ∀ v : Int32, 0 ≤ v.toInt → v.toInt ≤ 5 → vp_in (i + v) L) : LW p l e s m below meth c Q b GD GM i 563 [] σ τ := by
  refine l_x K dL_law_563 ?_
  refine l_arg K 1 1 (by decide) (hin 1 (by decide) (by decide)) dL_law_564 dL_law_565 dL_law_566 dL_law_567 dL_law_568 ?_
  refine l_arg K 2 2 (by decide) (hin 2 (by decide) (by decide)) dL_law_569 dL_law_570 dL_law_571 dL_law_572 dL_law_573 ?_
  refine l_callX (n := 2) K (kX4_ahead l K.2.2.2.2.2.2.2.2.1.1 K.2.2.2.2.2.2.2.2.2.1.1 _ _ σ hD) gL_law_X4_ahead rfl ⟨rfl, by decide, by decide, by decide +kernel⟩ ⟨Nat.le_of_ble_eq_true rfl, Nat.le_of_ble_eq_true rfl⟩ rfl rfl rfl rfl (by decide) dL_law_574 ?_
  refine l_m K dL_law_577 ?_
  refine l_arg K 1 1 (by decide) (hin 1 (by decide) (by decide)) dL_law_578 dL_law_579 dL_law_580 dL_law_581 dL_law_582 ?_
  refine l_arg K 2 2 (by decide) (hin 2 (by decide) (by decide)) dL_law_583 dL_law_584 dL_law_585 dL_law_586 dL_law_587 ?_
  refine l_callM (n := 2) K (kX5_ahead l K.2.2.2.2.2.2.2.2.1.2 K.2.2.2.2.2.2.2.2.2.1.2 _ _ τ hM) gL_law_X5_ahead rfl ⟨rfl, by decide, by decide, by decide +kernel⟩ ⟨Nat.le_of_ble_eq_true rfl, Nat.le_of_ble_eq_true rfl⟩ rfl rfl rfl rfl (by simp only [List.map, List.sum_cons, List.sum_nil, Value.category]; decide) dL_law_588 ?_
  have r := m_ahead hR (xs (i + 1).toNatClampNeg) (xs (i + 2).toNatClampNeg)
  refine l_cmp K r.1 dL_law_591 (by decide) ?_
  exact h0 _ _ r.2 (wX4_ahead _ _ hD) (wX5_ahead _ _ hM)
/-- ends -/
theorem law_c12 (K : LK p s m c b L xs GD GM) (h0 : ∀ σ9 τ9 : sg, RG σ9 τ9 → WD σ9 → WM τ9 → LW p l e s m below meth c Q b GD GM i 1524 [] σ9 τ9) (hR : RG σ τ) (hD : WD σ) (hM : WM τ) (hin : ∀ v : Int32, 0 ≤ v.toInt → v.toInt ≤ 5 → vp_in (i + v) L) : LW p l e s m below meth c Q b GD GM i 596 [] σ τ := by
  refine l_x K dL_law_596 ?_
  refine l_arg K 1 1 (by decide) (hin 1 (by decide) (by decide)) dL_law_597 dL_law_598 dL_law_599 dL_law_600 dL_law_601 ?_
  refine l_callX (n := 1) K (kX4_ends l K.2.2.2.2.2.2.2.2.1.1 K.2.2.2.2.2.2.2.2.2.1.1 _ σ hD) gL_law_X4_ends rfl ⟨rfl, by decide, by decide, by decide +kernel⟩ ⟨Nat.le_of_ble_eq_true rfl, Nat.le_of_ble_eq_true rfl⟩ rfl rfl rfl rfl (by decide) dL_law_602 ?_
  refine l_m K dL_law_605 ?_
  refine l_arg K 1 1 (by decide) (hin 1 (by decide) (by decide)) dL_law_606 dL_law_607 dL_law_608 dL_law_609 dL_law_610 ?_
  refine l_callM (n := 1) K (kX5_ends l K.2.2.2.2.2.2.2.2.1.2 K.2.2.2.2.2.2.2.2.2.1.2 _ τ hM) gL_law_X5_ends rfl ⟨rfl, by decide, by decide, by decide +kernel⟩ ⟨Nat.le_of_ble_eq_true rfl, Nat.le_of_ble_eq_true rfl⟩ rfl rfl rfl rfl (by simp only [List.map, List.sum_cons, List.sum_nil, Value.category]; decide) dL_law_611 ?_
  have r := m_ends hR (xs (i + 1).toNatClampNeg)
  refine l_cmp K r.1 dL_law_614 (by decide) ?_
  exact h0 _ _ r.2 (wX4_ends _ hD) (wX5_ends _ hM)
/-- soonest -/
theorem law_c13 (K : LK p s m c b L xs GD GM) (h0 : ∀ σ9 τ9 : sg, RG σ9 τ9 → WD σ9 → WM τ9 → LW p l e s m below meth c Q b GD GM i 1524 [] σ9 τ9) (hR : RG σ τ) (hD : WD σ) (hM : WM τ) (hin : ∀ v : Int32, 0 ≤ v.toInt → v.toInt ≤ 5 → vp_in (i + v) L) : LW p l e s m below meth c Q b GD GM i 619 [] σ τ := by
  refine l_x K dL_law_619 ?_
  refine l_callX (n := 0) K (kX4_soonest l K.2.2.2.2.2.2.2.2.1.1 K.2.2.2.2.2.2.2.2.2.1.1  σ hD) gL_law_X4_soonest rfl ⟨rfl, by decide, by decide, by decide +kernel⟩ ⟨Nat.le_of_ble_eq_true rfl, Nat.le_of_ble_eq_true rfl⟩ rfl rfl rfl rfl (by decide) dL_law_620 ?_
  refine l_m K dL_law_623 ?_
  refine l_callM (n := 0) K (kX5_soonest l K.2.2.2.2.2.2.2.2.1.2 K.2.2.2.2.2.2.2.2.2.1.2  τ hM) gL_law_X5_soonest rfl ⟨rfl, by decide, by decide, by decide +kernel⟩ ⟨Nat.le_of_ble_eq_true rfl, Nat.le_of_ble_eq_true rfl⟩ rfl rfl rfl rfl (by simp only [List.map, List.sum_cons, List.sum_nil, Value.category]; decide) dL_law_624 ?_
  have r := m_soonest hR 
  refine l_cmp K r.1 dL_law_627 (by decide) ?_
  exact h0 _ _ r.2 (wX4_soonest  hD) (wX5_soonest  hM)
/-- place -/
theorem law_c14 (K : LK p s m c b L xs GD GM) (h0 : ∀ σ9 τ9 : sg, RG σ9 τ9 → WD σ9 → WM τ9 → LW p l e s m below meth c Q b GD GM i 1524 [] σ9 τ9) (hR : RG σ τ) (hD : WD σ) (hM : WM τ) (hin : ∀ v : Int32, 0 ≤ v.toInt → v.toInt ≤ 5 → vp_in (i + v) L) : LW p l e s m below meth c Q b GD GM i 632 [] σ τ := by
  refine l_x K dL_law_632 ?_
  refine l_arg K 1 1 (by decide) (hin 1 (by decide) (by decide)) dL_law_633 dL_law_634 dL_law_635 dL_law_636 dL_law_637 ?_
  refine l_callX (n := 1) K (kX4_place l K.2.2.2.2.2.2.2.2.1.1 K.2.2.2.2.2.2.2.2.2.1.1 _ σ hD) gL_law_X4_place rfl ⟨rfl, by decide, by decide, by decide +kernel⟩ ⟨Nat.le_of_ble_eq_true rfl, Nat.le_of_ble_eq_true rfl⟩ rfl rfl rfl rfl (by decide) dL_law_638 ?_
  refine l_m K dL_law_641 ?_
  refine l_arg K 1 1 (by decide) (hin 1 (by decide) (by decide)) dL_law_642 dL_law_643 dL_law_644 dL_law_645 dL_law_646 ?_
  refine l_callM (n := 1) K (kX5_place l K.2.2.2.2.2.2.2.2.1.2 K.2.2.2.2.2.2.2.2.2.1.2 _ τ hM) gL_law_X5_place rfl ⟨rfl, by decide, by decide, by decide +kernel⟩ ⟨Nat.le_of_ble_eq_true rfl, Nat.le_of_ble_eq_true rfl⟩ rfl rfl rfl rfl (by simp only [List.map, List.sum_cons, List.sum_nil, Value.category]; decide) dL_law_647 ?_
  have r := m_place hR (xs (i + 1).toNatClampNeg)
  refine l_cmp K r.1 dL_law_650 (by decide) ?_
  exact h0 _ _ r.2 (wX4_place _ hD) (wX5_place _ hM)
/-- kindFor -/
theorem law_c15 (K : LK p s m c b L xs GD GM) (h0 : ∀ σ9 τ9 : sg, RG σ9 τ9 → WD σ9 → WM τ9 → LW p l e s m below meth c Q b GD GM i 1524 [] σ9 τ9) (hR : RG σ τ) (hD : WD σ) (hM : WM τ) (hin : ∀ v : Int32, 0 ≤ v.toInt → v.toInt ≤ 5 → vp_in (i + v) L) : LW p l e s m below meth c Q b GD GM i 655 [] σ τ := by
  refine l_x K dL_law_655 ?_
  refine l_arg K 1 1 (by decide) (hin 1 (by decide) (by decide)) dL_law_656 dL_law_657 dL_law_658 dL_law_659 dL_law_660 ?_
  refine l_callX (n := 1) K (kX4_kindFor l K.2.2.2.2.2.2.2.2.1.1 K.2.2.2.2.2.2.2.2.2.1.1 _ σ hD) gL_law_X4_kindFor rfl ⟨rfl, by decide, by decide, by decide +kernel⟩ ⟨Nat.le_of_ble_eq_true rfl, Nat.le_of_ble_eq_true rfl⟩ rfl rfl rfl rfl (by decide) dL_law_661 ?_
  refine l_m K dL_law_664 ?_
  refine l_arg K 1 1 (by decide) (hin 1 (by decide) (by decide)) dL_law_665 dL_law_666 dL_law_667 dL_law_668 dL_law_669 ?_
  refine l_callM (n := 1) K (kX5_kindFor l K.2.2.2.2.2.2.2.2.1.2 K.2.2.2.2.2.2.2.2.2.1.2 _ τ hM) gL_law_X5_kindFor rfl ⟨rfl, by decide, by decide, by decide +kernel⟩ ⟨Nat.le_of_ble_eq_true rfl, Nat.le_of_ble_eq_true rfl⟩ rfl rfl rfl rfl (by simp only [List.map, List.sum_cons, List.sum_nil, Value.category]; decide) dL_law_670 ?_
  have r := m_kindFor hR (xs (i + 1).toNatClampNeg)
  refine l_cmp K r.1 dL_law_673 (by decide) ?_
  exact h0 _ _ r.2 (wX4_kindFor _ hD) (wX5_kindFor _ hM)
/-- ice -/
theorem law_c16 (K : LK p s m c b L xs GD GM) (h0 : ∀ σ9 τ9 : sg, RG σ9 τ9 → WD σ9 → WM τ9 → LW p l e s m below meth c Q b GD GM i 1524 [] σ9 τ9) (hR : RG σ τ) (hD : WD σ) (hM : WM τ) (hin : ∀ v : Int32, 0 ≤ v.toInt → v.toInt ≤ 5 → vp_in (i + v) L) : LW p l e s m below meth c Q b GD GM i 678 [] σ τ := by
  refine l_x K dL_law_678 ?_
  refine l_arg K 1 1 (by decide) (hin 1 (by decide) (by decide)) dL_law_679 dL_law_680 dL_law_681 dL_law_682 dL_law_683 ?_
  refine l_arg K 2 2 (by decide) (hin 2 (by decide) (by decide)) dL_law_684 dL_law_685 dL_law_686 dL_law_687 dL_law_688 ?_
  refine l_callX (n := 2) K (kX4_ice l K.2.2.2.2.2.2.2.2.1.1 K.2.2.2.2.2.2.2.2.2.1.1 _ _ σ hD) gL_law_X4_ice rfl ⟨rfl, by decide, by decide, by decide +kernel⟩ ⟨Nat.le_of_ble_eq_true rfl, Nat.le_of_ble_eq_true rfl⟩ rfl rfl rfl rfl (by decide) dL_law_689 ?_
  refine l_m K dL_law_692 ?_
  refine l_arg K 1 1 (by decide) (hin 1 (by decide) (by decide)) dL_law_693 dL_law_694 dL_law_695 dL_law_696 dL_law_697 ?_
  refine l_arg K 2 2 (by decide) (hin 2 (by decide) (by decide)) dL_law_698 dL_law_699 dL_law_700 dL_law_701 dL_law_702 ?_
  refine l_callM (n := 2) K (kX5_ice l K.2.2.2.2.2.2.2.2.1.2 K.2.2.2.2.2.2.2.2.2.1.2 _ _ τ hM) gL_law_X5_ice rfl ⟨rfl, by decide, by decide, by decide +kernel⟩ ⟨Nat.le_of_ble_eq_true rfl, Nat.le_of_ble_eq_true rfl⟩ rfl rfl rfl rfl (by simp only [List.map, List.sum_cons, List.sum_nil, Value.category]; decide) dL_law_703 ?_
  have r := m_ice hR (xs (i + 1).toNatClampNeg) (xs (i + 2).toNatClampNeg)
  refine l_cmp K r.1 dL_law_706 (by decide) ?_
  exact h0 _ _ r.2 (wX4_ice _ _ hD) (wX5_ice _ _ hM)
/-- blocks -/
theorem law_c17 (K : LK p s m c b L xs GD GM) (h0 : ∀ σ9 τ9 : sg, RG σ9 τ9 → WD σ9 → WM τ9 → LW p l e s m below meth c Q b GD GM i 1524 [] σ9 τ9) (hR : RG σ τ) (hD : WD σ) (hM : WM τ) (hin : ∀ v : Int32, 0 ≤ v.toInt → v.toInt ≤ 5 → vp_in (i + v) L) : LW p l e s m below meth c Q b GD GM i 711 [] σ τ := by
  refine l_x K dL_law_711 ?_
  refine l_arg K 1 1 (by decide) (hin 1 (by decide) (by decide)) dL_law_712 dL_law_713 dL_law_714 dL_law_715 dL_law_716 ?_
  refine l_arg K 2 2 (by decide) (hin 2 (by decide) (by decide)) dL_law_717 dL_law_718 dL_law_719 dL_law_720 dL_law_721 ?_
  refine l_callX (n := 2) K (kX4_blocks l K.2.2.2.2.2.2.2.2.1.1 K.2.2.2.2.2.2.2.2.2.1.1 _ _ σ hD) gL_law_X4_blocks rfl ⟨rfl, by decide, by decide, by decide +kernel⟩ ⟨Nat.le_of_ble_eq_true rfl, Nat.le_of_ble_eq_true rfl⟩ rfl rfl rfl rfl (by decide) dL_law_722 ?_
  refine l_m K dL_law_725 ?_
  refine l_arg K 1 1 (by decide) (hin 1 (by decide) (by decide)) dL_law_726 dL_law_727 dL_law_728 dL_law_729 dL_law_730 ?_
  refine l_arg K 2 2 (by decide) (hin 2 (by decide) (by decide)) dL_law_731 dL_law_732 dL_law_733 dL_law_734 dL_law_735 ?_
  refine l_callM (n := 2) K (kX5_blocks l K.2.2.2.2.2.2.2.2.1.2 K.2.2.2.2.2.2.2.2.2.1.2 _ _ τ hM) gL_law_X5_blocks rfl ⟨rfl, by decide, by decide, by decide +kernel⟩ ⟨Nat.le_of_ble_eq_true rfl, Nat.le_of_ble_eq_true rfl⟩ rfl rfl rfl rfl (by simp only [List.map, List.sum_cons, List.sum_nil, Value.category]; decide) dL_law_736 ?_
  have r := m_blocks hR (xs (i + 1).toNatClampNeg) (xs (i + 2).toNatClampNeg)
  refine l_cmp K r.1 dL_law_739 (by decide) ?_
  exact h0 _ _ r.2 (wX4_blocks _ _ hD) (wX5_blocks _ _ hM)
/-- bears -/
theorem law_c18 (K : LK p s m c b L xs GD GM) (h0 : ∀ σ9 τ9 : sg, RG σ9 τ9 → WD σ9 → WM τ9 → LW p l e s m below meth c Q b GD GM i 1524 [] σ9 τ9) (hR : RG σ τ) (hD : WD σ) (hM : WM τ) (hin : ∀ v : Int32, 0 ≤ v.toInt → v.toInt ≤ 5 → vp_in (i + v) L) : LW p l e s m below meth c Q b GD GM i 744 [] σ τ := by
  refine l_x K dL_law_744 ?_
  refine l_arg K 1 1 (by decide) (hin 1 (by decide) (by decide)) dL_law_745 dL_law_746 dL_law_747 dL_law_748 dL_law_749 ?_
  refine l_arg K 2 2 (by decide) (hin 2 (by decide) (by decide)) dL_law_750 dL_law_751 dL_law_752 dL_law_753 dL_law_754 ?_
  refine l_callX (n := 2) K (kX4_bears l K.2.2.2.2.2.2.2.2.1.1 K.2.2.2.2.2.2.2.2.2.1.1 _ _ σ hD) gL_law_X4_bears rfl ⟨rfl, by decide, by decide, by decide +kernel⟩ ⟨Nat.le_of_ble_eq_true rfl, Nat.le_of_ble_eq_true rfl⟩ rfl rfl rfl rfl (by decide) dL_law_755 ?_
  refine l_m K dL_law_758 ?_
  refine l_arg K 1 1 (by decide) (hin 1 (by decide) (by decide)) dL_law_759 dL_law_760 dL_law_761 dL_law_762 dL_law_763 ?_
  refine l_arg K 2 2 (by decide) (hin 2 (by decide) (by decide)) dL_law_764 dL_law_765 dL_law_766 dL_law_767 dL_law_768 ?_
  refine l_callM (n := 2) K (kX5_bears l K.2.2.2.2.2.2.2.2.1.2 K.2.2.2.2.2.2.2.2.2.1.2 _ _ τ hM) gL_law_X5_bears rfl ⟨rfl, by decide, by decide, by decide +kernel⟩ ⟨Nat.le_of_ble_eq_true rfl, Nat.le_of_ble_eq_true rfl⟩ rfl rfl rfl rfl (by simp only [List.map, List.sum_cons, List.sum_nil, Value.category]; decide) dL_law_769 ?_
  have r := m_bears hR (xs (i + 1).toNatClampNeg) (xs (i + 2).toNatClampNeg)
  refine l_cmp K r.1 dL_law_772 (by decide) ?_
  exact h0 _ _ r.2 (wX4_bears _ _ hD) (wX5_bears _ _ hM)
/-- swap -/
theorem law_c19 (K : LK p s m c b L xs GD GM) (h0 : ∀ σ9 τ9 : sg, RG σ9 τ9 → WD σ9 → WM τ9 → LW p l e s m below meth c Q b GD GM i 1524 [] σ9 τ9) (hR : RG σ τ) (hD : WD σ) (hM : WM τ) (hin : ∀ v : Int32, 0 ≤ v.toInt → v.toInt ≤ 5 → vp_in (i + v) L) : LW p l e s m below meth c Q b GD GM i 777 [] σ τ := by
  refine l_x K dL_law_777 ?_
  refine l_arg K 1 1 (by decide) (hin 1 (by decide) (by decide)) dL_law_778 dL_law_779 dL_law_780 dL_law_781 dL_law_782 ?_
  refine l_callX (n := 1) K (kX4_swap l K.2.2.2.2.2.2.2.2.1.1 K.2.2.2.2.2.2.2.2.2.1.1 _ σ hD) gL_law_X4_swap rfl ⟨rfl, by decide, by decide, by decide +kernel⟩ ⟨Nat.le_of_ble_eq_true rfl, Nat.le_of_ble_eq_true rfl⟩ rfl rfl rfl rfl (by decide) dL_law_783 ?_
  refine l_m K dL_law_786 ?_
  refine l_arg K 1 1 (by decide) (hin 1 (by decide) (by decide)) dL_law_787 dL_law_788 dL_law_789 dL_law_790 dL_law_791 ?_
  refine l_callM (n := 1) K (kX5_swap l K.2.2.2.2.2.2.2.2.1.2 K.2.2.2.2.2.2.2.2.2.1.2 _ τ hM) gL_law_X5_swap rfl ⟨rfl, by decide, by decide, by decide +kernel⟩ ⟨Nat.le_of_ble_eq_true rfl, Nat.le_of_ble_eq_true rfl⟩ rfl rfl rfl rfl (by simp only [List.map, List.sum_cons, List.sum_nil, Value.category]; decide) dL_law_792 ?_
  have r := m_swap hR (xs (i + 1).toNatClampNeg)
  refine l_cmp K r.1 dL_law_795 (by decide) ?_
  exact h0 _ _ r.2 (wX4_swap _ hD) (wX5_swap _ hM)
/-- law -/
theorem law_c20 (K : LK p s m c b L xs GD GM) (h0 : ∀ σ9 τ9 : sg, RG σ9 τ9 → WD σ9 → WM τ9 → LW p l e s m below meth c Q b GD GM i 1524 [] σ9 τ9) (hR : RG σ τ) (hD : WD σ) (hM : WM τ) (hin : ∀ v : Int32, 0 ≤ v.toInt → v.toInt ≤ 5 → vp_in (i + v) L) : LW p l e s m below meth c Q b GD GM i 800 [] σ τ := by
  refine l_x K dL_law_800 ?_
  refine l_arg K 1 1 (by decide) (hin 1 (by decide) (by decide)) dL_law_801 dL_law_802 dL_law_803 dL_law_804 dL_law_805 ?_
  refine l_callX (n := 1) K (kX4_law l K.2.2.2.2.2.2.2.2.1.1 K.2.2.2.2.2.2.2.2.2.1.1 _ σ hD) gL_law_X4_law rfl ⟨rfl, by decide, by decide, by decide +kernel⟩ ⟨Nat.le_of_ble_eq_true rfl, Nat.le_of_ble_eq_true rfl⟩ rfl rfl rfl rfl (by decide) dL_law_806 ?_
  refine l_m K dL_law_809 ?_
  refine l_arg K 1 1 (by decide) (hin 1 (by decide) (by decide)) dL_law_810 dL_law_811 dL_law_812 dL_law_813 dL_law_814 ?_
  refine l_callM (n := 1) K (kX5_law l K.2.2.2.2.2.2.2.2.1.2 K.2.2.2.2.2.2.2.2.2.1.2 _ τ hM) gL_law_X5_law rfl ⟨rfl, by decide, by decide, by decide +kernel⟩ ⟨Nat.le_of_ble_eq_true rfl, Nat.le_of_ble_eq_true rfl⟩ rfl rfl rfl rfl (by simp only [List.map, List.sum_cons, List.sum_nil, Value.category]; decide) dL_law_815 ?_
  have r := m_law hR (xs (i + 1).toNatClampNeg)
  refine l_cmp K r.1 dL_law_818 (by decide) ?_
  exact h0 _ _ r.2 (wX4_law _ hD) (wX5_law _ hM)
/-- enemy -/
theorem law_c21 (K : LK p s m c b L xs GD GM) (h0 : ∀ σ9 τ9 : sg, RG σ9 τ9 → WD σ9 → WM τ9 → LW p l e s m below meth c Q b GD GM i 1524 [] σ9 τ9) (hR : RG σ τ) (hD : WD σ) (hM : WM τ) (hin : ∀ v : Int32, 0 ≤ v.toInt → v.toInt ≤ 5 → vp_in (i + v) L) : LW p l e s m below meth c Q b GD GM i 823 [] σ τ := by
  refine l_x K dL_law_823 ?_
  refine l_arg K 1 1 (by decide) (hin 1 (by decide) (by decide)) dL_law_824 dL_law_825 dL_law_826 dL_law_827 dL_law_828 ?_
  refine l_arg K 2 2 (by decide) (hin 2 (by decide) (by decide)) dL_law_829 dL_law_830 dL_law_831 dL_law_832 dL_law_833 ?_
  refine l_callX (n := 2) K (kX4_enemy l K.2.2.2.2.2.2.2.2.1.1 K.2.2.2.2.2.2.2.2.2.1.1 _ _ σ hD) gL_law_X4_enemy rfl ⟨rfl, by decide, by decide, by decide +kernel⟩ ⟨Nat.le_of_ble_eq_true rfl, Nat.le_of_ble_eq_true rfl⟩ rfl rfl rfl rfl (by decide) dL_law_834 ?_
  refine l_m K dL_law_837 ?_
  refine l_arg K 1 1 (by decide) (hin 1 (by decide) (by decide)) dL_law_838 dL_law_839 dL_law_840 dL_law_841 dL_law_842 ?_
  refine l_arg K 2 2 (by decide) (hin 2 (by decide) (by decide)) dL_law_843 dL_law_844 dL_law_845 dL_law_846 dL_law_847 ?_
  refine l_callM (n := 2) K (kX5_enemy l K.2.2.2.2.2.2.2.2.1.2 K.2.2.2.2.2.2.2.2.2.1.2 _ _ τ hM) gL_law_X5_enemy rfl ⟨rfl, by decide, by decide, by decide +kernel⟩ ⟨Nat.le_of_ble_eq_true rfl, Nat.le_of_ble_eq_true rfl⟩ rfl rfl rfl rfl (by simp only [List.map, List.sum_cons, List.sum_nil, Value.category]; decide) dL_law_848 ?_
  have r := m_enemy hR (xs (i + 1).toNatClampNeg) (xs (i + 2).toNatClampNeg)
  refine l_cmp K r.1 dL_law_851 (by decide) ?_
  exact h0 _ _ r.2 (wX4_enemy _ _ hD) (wX5_enemy _ _ hM)
/-- worst -/
theorem law_c22 (K : LK p s m c b L xs GD GM) (h0 : ∀ σ9 τ9 : sg, RG σ9 τ9 → WD σ9 → WM τ9 → LW p l e s m below meth c Q b GD GM i 1524 [] σ9 τ9) (hR : RG σ τ) (hD : WD σ) (hM : WM τ) (hin : ∀ v : Int32, 0 ≤ v.toInt → v.toInt ≤ 5 → vp_in (i + v) L) : LW p l e s m below meth c Q b GD GM i 856 [] σ τ := by
  refine l_x K dL_law_856 ?_
  refine l_arg K 1 1 (by decide) (hin 1 (by decide) (by decide)) dL_law_857 dL_law_858 dL_law_859 dL_law_860 dL_law_861 ?_
  refine l_arg K 2 2 (by decide) (hin 2 (by decide) (by decide)) dL_law_862 dL_law_863 dL_law_864 dL_law_865 dL_law_866 ?_
  refine l_callX (n := 2) K (kX4_worst l K.2.2.2.2.2.2.2.2.1.1 K.2.2.2.2.2.2.2.2.2.1.1 _ _ σ hD) gL_law_X4_worst rfl ⟨rfl, by decide, by decide, by decide +kernel⟩ ⟨Nat.le_of_ble_eq_true rfl, Nat.le_of_ble_eq_true rfl⟩ rfl rfl rfl rfl (by decide) dL_law_867 ?_
  refine l_m K dL_law_870 ?_
  refine l_arg K 1 1 (by decide) (hin 1 (by decide) (by decide)) dL_law_871 dL_law_872 dL_law_873 dL_law_874 dL_law_875 ?_
  refine l_arg K 2 2 (by decide) (hin 2 (by decide) (by decide)) dL_law_876 dL_law_877 dL_law_878 dL_law_879 dL_law_880 ?_
  refine l_callM (n := 2) K (kX5_worst l K.2.2.2.2.2.2.2.2.1.2 K.2.2.2.2.2.2.2.2.2.1.2 _ _ τ hM) gL_law_X5_worst rfl ⟨rfl, by decide, by decide, by decide +kernel⟩ ⟨Nat.le_of_ble_eq_true rfl, Nat.le_of_ble_eq_true rfl⟩ rfl rfl rfl rfl (by simp only [List.map, List.sum_cons, List.sum_nil, Value.category]; decide) dL_law_881 ?_
  have r := m_worst hR (xs (i + 1).toNatClampNeg) (xs (i + 2).toNatClampNeg)
  refine l_cmp K r.1 dL_law_884 (by decide) ?_
  exact h0 _ _ r.2 (wX4_worst _ _ hD) (wX5_worst _ _ hM)
/-- least -/
theorem law_c23 (K : LK p s m c b L xs GD GM) (h0 : ∀ σ9 τ9 : sg, RG σ9 τ9 → WD σ9 → WM τ9 → LW p l e s m below meth c Q b GD GM i 1524 [] σ9 τ9) (hR : RG σ τ) (hD : WD σ) (hM : WM τ) (hin : ∀ v : Int32, 0 ≤ v.toInt → v.toInt ≤ 5 → vp_in (i + v) L) : LW p l e s m below meth c Q b GD GM i 889 [] σ τ := by
  refine l_x K dL_law_889 ?_
  refine l_arg K 1 1 (by decide) (hin 1 (by decide) (by decide)) dL_law_890 dL_law_891 dL_law_892 dL_law_893 dL_law_894 ?_
  refine l_arg K 2 2 (by decide) (hin 2 (by decide) (by decide)) dL_law_895 dL_law_896 dL_law_897 dL_law_898 dL_law_899 ?_
  refine l_callX (n := 2) K (kX4_least l K.2.2.2.2.2.2.2.2.1.1 K.2.2.2.2.2.2.2.2.2.1.1 _ _ σ hD) gL_law_X4_least rfl ⟨rfl, by decide, by decide, by decide +kernel⟩ ⟨Nat.le_of_ble_eq_true rfl, Nat.le_of_ble_eq_true rfl⟩ rfl rfl rfl rfl (by decide) dL_law_900 ?_
  refine l_m K dL_law_903 ?_
  refine l_arg K 1 1 (by decide) (hin 1 (by decide) (by decide)) dL_law_904 dL_law_905 dL_law_906 dL_law_907 dL_law_908 ?_
  refine l_arg K 2 2 (by decide) (hin 2 (by decide) (by decide)) dL_law_909 dL_law_910 dL_law_911 dL_law_912 dL_law_913 ?_
  refine l_callM (n := 2) K (kX5_least l K.2.2.2.2.2.2.2.2.1.2 K.2.2.2.2.2.2.2.2.2.1.2 _ _ τ hM) gL_law_X5_least rfl ⟨rfl, by decide, by decide, by decide +kernel⟩ ⟨Nat.le_of_ble_eq_true rfl, Nat.le_of_ble_eq_true rfl⟩ rfl rfl rfl rfl (by simp only [List.map, List.sum_cons, List.sum_nil, Value.category]; decide) dL_law_914 ?_
  have r := m_least hR (xs (i + 1).toNatClampNeg) (xs (i + 2).toNatClampNeg)
  refine l_cmp K r.1 dL_law_917 (by decide) ?_
  exact h0 _ _ r.2 (wX4_least _ _ hD) (wX5_least _ _ hM)
/-- nail -/
theorem law_c24 (K : LK p s m c b L xs GD GM) (h0 : ∀ σ9 τ9 : sg, RG σ9 τ9 → WD σ9 → WM τ9 → LW p l e s m below meth c Q b GD GM i 1524 [] σ9 τ9) (hR : RG σ τ) (hD : WD σ) (hM : WM τ) (hin : ∀ v : Int32, 0 ≤ v.toInt → v.toInt ≤ 5 → vp_in (i + v) L) : LW p l e s m below meth c Q b GD GM i 922 [] σ τ := by
  refine l_x K dL_law_922 ?_
  refine l_arg K 1 1 (by decide) (hin 1 (by decide) (by decide)) dL_law_923 dL_law_924 dL_law_925 dL_law_926 dL_law_927 ?_
  refine l_callX (n := 1) K (kX4_nail l K.2.2.2.2.2.2.2.2.1.1 K.2.2.2.2.2.2.2.2.2.1.1 _ σ hD) gL_law_X4_nail rfl ⟨rfl, by decide, by decide, by decide +kernel⟩ ⟨Nat.le_of_ble_eq_true rfl, Nat.le_of_ble_eq_true rfl⟩ rfl rfl rfl rfl (by decide) dL_law_928 ?_
  refine l_m K dL_law_931 ?_
  refine l_arg K 1 1 (by decide) (hin 1 (by decide) (by decide)) dL_law_932 dL_law_933 dL_law_934 dL_law_935 dL_law_936 ?_
  refine l_callM (n := 1) K (kX5_nail l K.2.2.2.2.2.2.2.2.1.2 K.2.2.2.2.2.2.2.2.2.1.2 _ τ hM) gL_law_X5_nail rfl ⟨rfl, by decide, by decide, by decide +kernel⟩ ⟨Nat.le_of_ble_eq_true rfl, Nat.le_of_ble_eq_true rfl⟩ rfl rfl rfl rfl (by simp only [List.map, List.sum_cons, List.sum_nil, Value.category]; decide) dL_law_937 ?_
  have r := m_nail hR (xs (i + 1).toNatClampNeg)
  refine l_cmp K r.1 dL_law_940 (by decide) ?_
  exact h0 _ _ r.2 (wX4_nail _ hD) (wX5_nail _ hM)
/-- hang -/
theorem law_c25 (K : LK p s m c b L xs GD GM) (h0 : ∀ σ9 τ9 : sg, RG σ9 τ9 → WD σ9 → WM τ9 → LW p l e s m below meth c Q b GD GM i 1524 [] σ9 τ9) (hR : RG σ τ) (hD : WD σ) (hM : WM τ) (hin : ∀ v : Int32, 0 ≤ v.toInt → v.toInt ≤ 5 → vp_in (i + v) L) : LW p l e s m below meth c Q b GD GM i 945 [] σ τ := by
  refine l_x K dL_law_945 ?_
  refine l_arg K 1 1 (by decide) (hin 1 (by decide) (by decide)) dL_law_946 dL_law_947 dL_law_948 dL_law_949 dL_law_950 ?_
  refine l_callX (n := 1) K (kX4_hang l K.2.2.2.2.2.2.2.2.1.1 K.2.2.2.2.2.2.2.2.2.1.1 _ σ hD) gL_law_X4_hang rfl ⟨rfl, by decide, by decide, by decide +kernel⟩ ⟨Nat.le_of_ble_eq_true rfl, Nat.le_of_ble_eq_true rfl⟩ rfl rfl rfl rfl (by decide) dL_law_951 ?_
  refine l_m K dL_law_954 ?_
  refine l_arg K 1 1 (by decide) (hin 1 (by decide) (by decide)) dL_law_955 dL_law_956 dL_law_957 dL_law_958 dL_law_959 ?_
  refine l_callM (n := 1) K (kX5_hang l K.2.2.2.2.2.2.2.2.1.2 K.2.2.2.2.2.2.2.2.2.1.2 _ τ hM) gL_law_X5_hang rfl ⟨rfl, by decide, by decide, by decide +kernel⟩ ⟨Nat.le_of_ble_eq_true rfl, Nat.le_of_ble_eq_true rfl⟩ rfl rfl rfl rfl (by simp only [List.map, List.sum_cons, List.sum_nil, Value.category]; decide) dL_law_960 ?_
  have r := m_hang hR (xs (i + 1).toNatClampNeg)
  refine l_cmp K r.1 dL_law_963 (by decide) ?_
  exact h0 _ _ r.2 (wX4_hang _ hD) (wX5_hang _ hM)
/-- falls -/
theorem law_c26 (K : LK p s m c b L xs GD GM) (h0 : ∀ σ9 τ9 : sg, RG σ9 τ9 → WD σ9 → WM τ9 → LW p l e s m below meth c Q b GD GM i 1524 [] σ9 τ9) (hR : RG σ τ) (hD : WD σ) (hM : WM τ) (hin : ∀ v : Int32, 0 ≤ v.toInt → v.toInt ≤ 5 → vp_in (i + v) L) : LW p l e s m below meth c Q b GD GM i 968 [] σ τ := by
  refine l_x K dL_law_968 ?_
  refine l_arg K 1 1 (by decide) (hin 1 (by decide) (by decide)) dL_law_969 dL_law_970 dL_law_971 dL_law_972 dL_law_973 ?_
  refine l_callX (n := 1) K (kX4_falls l K.2.2.2.2.2.2.2.2.1.1 K.2.2.2.2.2.2.2.2.2.1.1 _ σ hD) gL_law_X4_falls rfl ⟨rfl, by decide, by decide, by decide +kernel⟩ ⟨Nat.le_of_ble_eq_true rfl, Nat.le_of_ble_eq_true rfl⟩ rfl rfl rfl rfl (by decide) dL_law_974 ?_
  refine l_m K dL_law_977 ?_
  refine l_arg K 1 1 (by decide) (hin 1 (by decide) (by decide)) dL_law_978 dL_law_979 dL_law_980 dL_law_981 dL_law_982 ?_
  refine l_callM (n := 1) K (kX5_falls l K.2.2.2.2.2.2.2.2.1.2 K.2.2.2.2.2.2.2.2.2.1.2 _ τ hM) gL_law_X5_falls rfl ⟨rfl, by decide, by decide, by decide +kernel⟩ ⟨Nat.le_of_ble_eq_true rfl, Nat.le_of_ble_eq_true rfl⟩ rfl rfl rfl rfl (by simp only [List.map, List.sum_cons, List.sum_nil, Value.category]; decide) dL_law_983 ?_
  have r := m_falls hR (xs (i + 1).toNatClampNeg)
  refine l_cmp K r.1 dL_law_986 (by decide) ?_
  exact h0 _ _ r.2 (wX4_falls _ hD) (wX5_falls _ hM)
/-- war -/
theorem law_c27 (K : LK p s m c b L xs GD GM) (h0 : ∀ σ9 τ9 : sg, RG σ9 τ9 → WD σ9 → WM τ9 → LW p l e s m below meth c Q b GD GM i 1524 [] σ9 τ9) (hR : RG σ τ) (hD : WD σ) (hM : WM τ) (hin : ∀ v : Int32, 0 ≤ v.toInt → v.toInt ≤ 5 → vp_in (i + v) L) : LW p l e s m below meth c Q b GD GM i 991 [] σ τ := by
  refine l_x K dL_law_991 ?_
  refine l_callX (n := 0) K (kX4_war l K.2.2.2.2.2.2.2.2.1.1 K.2.2.2.2.2.2.2.2.2.1.1  σ hD) gL_law_X4_war rfl ⟨rfl, by decide, by decide, by decide +kernel⟩ ⟨Nat.le_of_ble_eq_true rfl, Nat.le_of_ble_eq_true rfl⟩ rfl rfl rfl rfl (by decide) dL_law_992 ?_
  refine l_m K dL_law_995 ?_
  refine l_callM (n := 0) K (kX5_war l K.2.2.2.2.2.2.2.2.1.2 K.2.2.2.2.2.2.2.2.2.1.2  τ hM) gL_law_X5_war rfl ⟨rfl, by decide, by decide, by decide +kernel⟩ ⟨Nat.le_of_ble_eq_true rfl, Nat.le_of_ble_eq_true rfl⟩ rfl rfl rfl rfl (by simp only [List.map, List.sum_cons, List.sum_nil, Value.category]; decide) dL_law_996 ?_
  refine l_cmp K (m_war hR ) dL_law_999 (by decide) ?_
  exact h0 _ _ hR hD hM
/-- key -/
theorem law_c28 (K : LK p s m c b L xs GD GM) (h0 : ∀ σ9 τ9 : sg, RG σ9 τ9 → WD σ9 → WM τ9 → LW p l e s m below meth c Q b GD GM i 1524 [] σ9 τ9) (hR : RG σ τ) (hD : WD σ) (hM : WM τ) (hin : ∀ v : Int32, 0 ≤ v.toInt → v.toInt ≤ 5 → vp_in (i + v) L) : LW p l e s m below meth c Q b GD GM i 1004 [] σ τ := by
  refine l_x K dL_law_1004 ?_
  refine l_callX (n := 0) K (kX4_key l K.2.2.2.2.2.2.2.2.1.1 K.2.2.2.2.2.2.2.2.2.1.1  σ hD) gL_law_X4_key rfl ⟨rfl, by decide, by decide, by decide +kernel⟩ ⟨Nat.le_of_ble_eq_true rfl, Nat.le_of_ble_eq_true rfl⟩ rfl rfl rfl rfl (by decide) dL_law_1005 ?_
  refine l_m K dL_law_1008 ?_
  refine l_callM (n := 0) K (kX5_key l K.2.2.2.2.2.2.2.2.1.2 K.2.2.2.2.2.2.2.2.2.1.2  τ hM) gL_law_X5_key rfl ⟨rfl, by decide, by decide, by decide +kernel⟩ ⟨Nat.le_of_ble_eq_true rfl, Nat.le_of_ble_eq_true rfl⟩ rfl rfl rfl rfl (by simp only [List.map, List.sum_cons, List.sum_nil, Value.category]; decide) dL_law_1009 ?_
  have r := m_key hR 
  refine l_cmp K r.1 dL_law_1012 (by decide) ?_
  exact h0 _ _ r.2 (wX4_key  hD) (wX5_key  hM)
/-- began -/
theorem law_c29 (K : LK p s m c b L xs GD GM) (h0 : ∀ σ9 τ9 : sg, RG σ9 τ9 → WD σ9 → WM τ9 → LW p l e s m below meth c Q b GD GM i 1524 [] σ9 τ9) (hR : RG σ τ) (hD : WD σ) (hM : WM τ) (hin : ∀ v : Int32, 0 ≤ v.toInt → v.toInt ≤ 5 → vp_in (i + v) L) : LW p l e s m below meth c Q b GD GM i 1017 [] σ τ := by
  refine l_x K dL_law_1017 ?_
  refine l_callX (n := 0) K (kX4_began l K.2.2.2.2.2.2.2.2.1.1 K.2.2.2.2.2.2.2.2.2.1.1  σ hD) gL_law_X4_began rfl ⟨rfl, by decide, by decide, by decide +kernel⟩ ⟨Nat.le_of_ble_eq_true rfl, Nat.le_of_ble_eq_true rfl⟩ rfl rfl rfl rfl (by decide) dL_law_1018 ?_
  refine l_m K dL_law_1021 ?_
  refine l_callM (n := 0) K (kX5_began l K.2.2.2.2.2.2.2.2.1.2 K.2.2.2.2.2.2.2.2.2.1.2  τ hM) gL_law_X5_began rfl ⟨rfl, by decide, by decide, by decide +kernel⟩ ⟨Nat.le_of_ble_eq_true rfl, Nat.le_of_ble_eq_true rfl⟩ rfl rfl rfl rfl (by simp only [List.map, List.sum_cons, List.sum_nil, Value.category]; decide) dL_law_1022 ?_
  have r := m_began hR 
  refine l_cmp K r.1 dL_law_1025 (by decide) ?_
  exact h0 _ _ r.2 (wX4_began  hD) (wX5_began  hM)
/-- opened -/
theorem law_c30 (K : LK p s m c b L xs GD GM) (h0 : ∀ σ9 τ9 : sg, RG σ9 τ9 → WD σ9 → WM τ9 → LW p l e s m below meth c Q b GD GM i 1524 [] σ9 τ9) (hR : RG σ τ) (hD : WD σ) (hM : WM τ) (hin : ∀ v : Int32, 0 ≤ v.toInt → v.toInt ≤ 5 → vp_in (i + v) L) : LW p l e s m below meth c Q b GD GM i 1030 [] σ τ := by
  refine l_x K dL_law_1030 ?_
  refine l_arg K 1 1 (by decide) (hin 1 (by decide) (by decide)) dL_law_1031 dL_law_1032 dL_law_1033 dL_law_1034 dL_law_1035 ?_
  refine l_arg K 2 2 (by decide) (hin 2 (by decide) (by decide)) dL_law_1036 dL_law_1037 dL_law_1038 dL_law_1039 dL_law_1040 ?_
  refine l_callX (n := 2) K (kX4_opened l K.2.2.2.2.2.2.2.2.1.1 K.2.2.2.2.2.2.2.2.2.1.1 _ _ σ hD) gL_law_X4_opened rfl ⟨rfl, by decide, by decide, by decide +kernel⟩ ⟨Nat.le_of_ble_eq_true rfl, Nat.le_of_ble_eq_true rfl⟩ rfl rfl rfl rfl (by decide) dL_law_1041 ?_
  refine l_m K dL_law_1044 ?_
  refine l_arg K 1 1 (by decide) (hin 1 (by decide) (by decide)) dL_law_1045 dL_law_1046 dL_law_1047 dL_law_1048 dL_law_1049 ?_
  refine l_arg K 2 2 (by decide) (hin 2 (by decide) (by decide)) dL_law_1050 dL_law_1051 dL_law_1052 dL_law_1053 dL_law_1054 ?_
  refine l_callM (n := 2) K (kX5_opened l K.2.2.2.2.2.2.2.2.1.2 K.2.2.2.2.2.2.2.2.2.1.2 _ _ τ hM) gL_law_X5_opened rfl ⟨rfl, by decide, by decide, by decide +kernel⟩ ⟨Nat.le_of_ble_eq_true rfl, Nat.le_of_ble_eq_true rfl⟩ rfl rfl rfl rfl (by simp only [List.map, List.sum_cons, List.sum_nil, Value.category]; decide) dL_law_1055 ?_
  have r := m_opened hR (xs (i + 1).toNatClampNeg) (xs (i + 2).toNatClampNeg)
  refine l_cmp K r.1 dL_law_1058 (by decide) ?_
  exact h0 _ _ r.2 (wX4_opened _ _ hD) (wX5_opened _ _ hM)
/-- days -/
theorem law_c31 (K : LK p s m c b L xs GD GM) (h0 : ∀ σ9 τ9 : sg, RG σ9 τ9 → WD σ9 → WM τ9 → LW p l e s m below meth c Q b GD GM i 1524 [] σ9 τ9) (hR : RG σ τ) (hD : WD σ) (hM : WM τ) (hin : ∀ v : Int32, 0 ≤ v.toInt → v.toInt ≤ 5 → vp_in (i + v) L) : LW p l e s m below meth c Q b GD GM i 1063 [] σ τ := by
  refine l_x K dL_law_1063 ?_
  refine l_arg K 1 1 (by decide) (hin 1 (by decide) (by decide)) dL_law_1064 dL_law_1065 dL_law_1066 dL_law_1067 dL_law_1068 ?_
  refine l_callX (n := 1) K (kX4_days l K.2.2.2.2.2.2.2.2.1.1 K.2.2.2.2.2.2.2.2.2.1.1 _ σ hD) gL_law_X4_days rfl ⟨rfl, by decide, by decide, by decide +kernel⟩ ⟨Nat.le_of_ble_eq_true rfl, Nat.le_of_ble_eq_true rfl⟩ rfl rfl rfl rfl (by decide) dL_law_1069 ?_
  refine l_m K dL_law_1072 ?_
  refine l_arg K 1 1 (by decide) (hin 1 (by decide) (by decide)) dL_law_1073 dL_law_1074 dL_law_1075 dL_law_1076 dL_law_1077 ?_
  refine l_callM (n := 1) K (kX5_days l K.2.2.2.2.2.2.2.2.1.2 K.2.2.2.2.2.2.2.2.2.1.2 _ τ hM) gL_law_X5_days rfl ⟨rfl, by decide, by decide, by decide +kernel⟩ ⟨Nat.le_of_ble_eq_true rfl, Nat.le_of_ble_eq_true rfl⟩ rfl rfl rfl rfl (by simp only [List.map, List.sum_cons, List.sum_nil, Value.category]; decide) dL_law_1078 ?_
  have r := m_days hR (xs (i + 1).toNatClampNeg)
  refine l_cmp K r.1 dL_law_1081 (by decide) ?_
  exact h0 _ _ r.2 (wX4_days _ hD) (wX5_days _ hM)
/-- seed -/
theorem law_c32 (K : LK p s m c b L xs GD GM) (h0 : ∀ σ9 τ9 : sg, RG σ9 τ9 → WD σ9 → WM τ9 → LW p l e s m below meth c Q b GD GM i 1524 [] σ9 τ9) (hR : RG σ τ) (hD : WD σ) (hM : WM τ) (hin : ∀ v : Int32, 0 ≤ v.toInt → v.toInt ≤ 5 → vp_in (i + v) L) : LW p l e s m below meth c Q b GD GM i 1086 [] σ τ := by
  refine l_x K dL_law_1086 ?_
  refine l_arg K 1 1 (by decide) (hin 1 (by decide) (by decide)) dL_law_1087 dL_law_1088 dL_law_1089 dL_law_1090 dL_law_1091 ?_
  refine l_callX (n := 1) K (kX4_seed l K.2.2.2.2.2.2.2.2.1.1 K.2.2.2.2.2.2.2.2.2.1.1 _ σ hD) gL_law_X4_seed rfl ⟨rfl, by decide, by decide, by decide +kernel⟩ ⟨Nat.le_of_ble_eq_true rfl, Nat.le_of_ble_eq_true rfl⟩ rfl rfl rfl rfl (by decide) dL_law_1092 ?_
  refine l_m K dL_law_1095 ?_
  refine l_arg K 1 1 (by decide) (hin 1 (by decide) (by decide)) dL_law_1096 dL_law_1097 dL_law_1098 dL_law_1099 dL_law_1100 ?_
  refine l_callM (n := 1) K (kX5_seed l K.2.2.2.2.2.2.2.2.1.2 K.2.2.2.2.2.2.2.2.2.1.2 _ τ hM) gL_law_X5_seed rfl ⟨rfl, by decide, by decide, by decide +kernel⟩ ⟨Nat.le_of_ble_eq_true rfl, Nat.le_of_ble_eq_true rfl⟩ rfl rfl rfl rfl (by simp only [List.map, List.sum_cons, List.sum_nil, Value.category]; decide) dL_law_1101 ?_
  have r := m_seed hR (xs (i + 1).toNatClampNeg)
  refine l_cmp K r.1 dL_law_1104 (by decide) ?_
  exact h0 _ _ r.2 (wX4_seed _ hD) (wX5_seed _ hM)
/-- feed -/
theorem law_c33 (K : LK p s m c b L xs GD GM) (h0 : ∀ σ9 τ9 : sg, RG σ9 τ9 → WD σ9 → WM τ9 → LW p l e s m below meth c Q b GD GM i 1524 [] σ9 τ9) (hR : RG σ τ) (hD : WD σ) (hM : WM τ) (hin : ∀ v : Int32, 0 ≤ v.toInt → v.toInt ≤ 5 → vp_in (i + v) L) : LW p l e s m below meth c Q b GD GM i 1109 [] σ τ := by
  refine l_x K dL_law_1109 ?_
  refine l_arg K 1 1 (by decide) (hin 1 (by decide) (by decide)) dL_law_1110 dL_law_1111 dL_law_1112 dL_law_1113 dL_law_1114 ?_
  refine l_arg K 2 2 (by decide) (hin 2 (by decide) (by decide)) dL_law_1115 dL_law_1116 dL_law_1117 dL_law_1118 dL_law_1119 ?_
  refine l_callX (n := 2) K (kX4_feed l K.2.2.2.2.2.2.2.2.1.1 K.2.2.2.2.2.2.2.2.2.1.1 _ _ σ hD) gL_law_X4_feed rfl ⟨rfl, by decide, by decide, by decide +kernel⟩ ⟨Nat.le_of_ble_eq_true rfl, Nat.le_of_ble_eq_true rfl⟩ rfl rfl rfl rfl (by decide) dL_law_1120 ?_
  refine l_m K dL_law_1123 ?_
  refine l_arg K 1 1 (by decide) (hin 1 (by decide) (by decide)) dL_law_1124 dL_law_1125 dL_law_1126 dL_law_1127 dL_law_1128 ?_
  refine l_arg K 2 2 (by decide) (hin 2 (by decide) (by decide)) dL_law_1129 dL_law_1130 dL_law_1131 dL_law_1132 dL_law_1133 ?_
  refine l_callM (n := 2) K (kX5_feed l K.2.2.2.2.2.2.2.2.1.2 K.2.2.2.2.2.2.2.2.2.1.2 _ _ τ hM) gL_law_X5_feed rfl ⟨rfl, by decide, by decide, by decide +kernel⟩ ⟨Nat.le_of_ble_eq_true rfl, Nat.le_of_ble_eq_true rfl⟩ rfl rfl rfl rfl (by simp only [List.map, List.sum_cons, List.sum_nil, Value.category]; decide) dL_law_1134 ?_
  have r := m_feed hR (xs (i + 1).toNatClampNeg) (xs (i + 2).toNatClampNeg)
  refine l_cmp K r.1 dL_law_1137 (by decide) ?_
  exact h0 _ _ r.2 (wX4_feed _ _ hD) (wX5_feed _ _ hM)
/-- wipe -/
theorem law_c34 (K : LK p s m c b L xs GD GM) (h0 : ∀ σ9 τ9 : sg, RG σ9 τ9 → WD σ9 → WM τ9 → LW p l e s m below meth c Q b GD GM i 1524 [] σ9 τ9) (hR : RG σ τ) (hD : WD σ) (hM : WM τ) (hin : ∀ v : Int32, 0 ≤ v.toInt → v.toInt ≤ 5 → vp_in (i + v) L) : LW p l e s m below meth c Q b GD GM i 1142 [] σ τ := by
  refine l_x K dL_law_1142 ?_
  refine l_callX (n := 0) K (kX4_wipe l K.2.2.2.2.2.2.2.2.1.1 K.2.2.2.2.2.2.2.2.2.1.1  σ hD) gL_law_X4_wipe rfl ⟨rfl, by decide, by decide, by decide +kernel⟩ ⟨Nat.le_of_ble_eq_true rfl, Nat.le_of_ble_eq_true rfl⟩ rfl rfl rfl rfl (by decide) dL_law_1143 ?_
  refine l_m K dL_law_1146 ?_
  refine l_callM (n := 0) K (kX5_wipe l K.2.2.2.2.2.2.2.2.1.2 K.2.2.2.2.2.2.2.2.2.1.2  τ hM) gL_law_X5_wipe rfl ⟨rfl, by decide, by decide, by decide +kernel⟩ ⟨Nat.le_of_ble_eq_true rfl, Nat.le_of_ble_eq_true rfl⟩ rfl rfl rfl rfl (by simp only [List.map, List.sum_cons, List.sum_nil, Value.category]; decide) dL_law_1147 ?_
  have r := m_wipe hR 
  refine l_cmp K r.1 dL_law_1150 (by decide) ?_
  exact h0 _ _ r.2 (wX4_wipe  hD) (wX5_wipe  hM)
/-- text -/
theorem law_c35 (K : LK p s m c b L xs GD GM) (h0 : ∀ σ9 τ9 : sg, RG σ9 τ9 → WD σ9 → WM τ9 → LW p l e s m below meth c Q b GD GM i 1524 [] σ9 τ9) (hR : RG σ τ) (hD : WD σ) (hM : WM τ) (hin : ∀ v : Int32, 0 ≤ v.toInt → v.toInt ≤ 5 → vp_in (i + v) L) : LW p l e s m below meth c Q b GD GM i 1155 [] σ τ := by
  refine l_x K dL_law_1155 ?_
  refine l_callX (n := 0) K (kX4_text l K.2.2.2.2.2.2.2.2.1.1 K.2.2.2.2.2.2.2.2.2.1.1  σ hD) gL_law_X4_text rfl ⟨rfl, by decide, by decide, by decide +kernel⟩ ⟨Nat.le_of_ble_eq_true rfl, Nat.le_of_ble_eq_true rfl⟩ rfl rfl rfl rfl (by decide) dL_law_1156 ?_
  refine l_m K dL_law_1159 ?_
  refine l_callM (n := 0) K (kX5_text l K.2.2.2.2.2.2.2.2.1.2 K.2.2.2.2.2.2.2.2.2.1.2  τ hM) gL_law_X5_text rfl ⟨rfl, by decide, by decide, by decide +kernel⟩ ⟨Nat.le_of_ble_eq_true rfl, Nat.le_of_ble_eq_true rfl⟩ rfl rfl rfl rfl (by simp only [List.map, List.sum_cons, List.sum_nil, Value.category]; decide) dL_law_1160 ?_
  have r := m_text hR 
  refine l_cmp K r.1 dL_law_1163 (by decide) ?_
  exact h0 _ _ r.2 (wX4_text  hD) (wX5_text  hM)
/-- hold -/
theorem law_c36 (K : LK p s m c b L xs GD GM) (h0 : ∀ σ9 τ9 : sg, RG σ9 τ9 → WD σ9 → WM τ9 → LW p l e s m below meth c Q b GD GM i 1524 [] σ9 τ9) (hR : RG σ τ) (hD : WD σ) (hM : WM τ) (hin : ∀ v : Int32, 0 ≤ v.toInt → v.toInt ≤ 5 → vp_in (i + v) L) : LW p l e s m below meth c Q b GD GM i 1168 [] σ τ := by
  refine l_x K dL_law_1168 ?_
  refine l_arg K 1 1 (by decide) (hin 1 (by decide) (by decide)) dL_law_1169 dL_law_1170 dL_law_1171 dL_law_1172 dL_law_1173 ?_
  refine l_arg K 2 2 (by decide) (hin 2 (by decide) (by decide)) dL_law_1174 dL_law_1175 dL_law_1176 dL_law_1177 dL_law_1178 ?_
  refine l_callX (n := 2) K (kX4_hold l K.2.2.2.2.2.2.2.2.1.1 K.2.2.2.2.2.2.2.2.2.1.1 _ _ σ hD) gL_law_X4_hold rfl ⟨rfl, by decide, by decide, by decide +kernel⟩ ⟨Nat.le_of_ble_eq_true rfl, Nat.le_of_ble_eq_true rfl⟩ rfl rfl rfl rfl (by decide) dL_law_1179 ?_
  refine l_m K dL_law_1182 ?_
  refine l_arg K 1 1 (by decide) (hin 1 (by decide) (by decide)) dL_law_1183 dL_law_1184 dL_law_1185 dL_law_1186 dL_law_1187 ?_
  refine l_arg K 2 2 (by decide) (hin 2 (by decide) (by decide)) dL_law_1188 dL_law_1189 dL_law_1190 dL_law_1191 dL_law_1192 ?_
  refine l_callM (n := 2) K (kX5_hold l K.2.2.2.2.2.2.2.2.1.2 K.2.2.2.2.2.2.2.2.2.1.2 _ _ τ hM) gL_law_X5_hold rfl ⟨rfl, by decide, by decide, by decide +kernel⟩ ⟨Nat.le_of_ble_eq_true rfl, Nat.le_of_ble_eq_true rfl⟩ rfl rfl rfl rfl (by simp only [List.map, List.sum_cons, List.sum_nil, Value.category]; decide) dL_law_1193 ?_
  have r := m_hold hR (xs (i + 1).toNatClampNeg) (xs (i + 2).toNatClampNeg)
  refine l_cmp K r.1 dL_law_1196 (by decide) ?_
  exact h0 _ _ r.2 (wX4_hold _ _ hD) (wX5_hold _ _ hM)
/-- as -/
theorem law_c37 (K : LK p s m c b L xs GD GM) (h0 : ∀ σ9 τ9 : sg, RG σ9 τ9 → WD σ9 → WM τ9 → LW p l e s m below meth c Q b GD GM i 1524 [] σ9 τ9) (hR : RG σ τ) (hD : WD σ) (hM : WM τ) (hin : ∀ v : Int32, 0 ≤ v.toInt → v.toInt ≤ 5 → vp_in (i + v) L) : LW p l e s m below meth c Q b GD GM i 1201 [] σ τ := by
  refine l_x K dL_law_1201 ?_
  refine l_arg K 1 1 (by decide) (hin 1 (by decide) (by decide)) dL_law_1202 dL_law_1203 dL_law_1204 dL_law_1205 dL_law_1206 ?_
  refine l_arg K 2 2 (by decide) (hin 2 (by decide) (by decide)) dL_law_1207 dL_law_1208 dL_law_1209 dL_law_1210 dL_law_1211 ?_
  refine l_callX (n := 2) K (kX4_as l K.2.2.2.2.2.2.2.2.1.1 K.2.2.2.2.2.2.2.2.2.1.1 _ _ σ hD) gL_law_X4_as rfl ⟨rfl, by decide, by decide, by decide +kernel⟩ ⟨Nat.le_of_ble_eq_true rfl, Nat.le_of_ble_eq_true rfl⟩ rfl rfl rfl rfl (by decide) dL_law_1212 ?_
  refine l_m K dL_law_1215 ?_
  refine l_arg K 1 1 (by decide) (hin 1 (by decide) (by decide)) dL_law_1216 dL_law_1217 dL_law_1218 dL_law_1219 dL_law_1220 ?_
  refine l_arg K 2 2 (by decide) (hin 2 (by decide) (by decide)) dL_law_1221 dL_law_1222 dL_law_1223 dL_law_1224 dL_law_1225 ?_
  refine l_callM (n := 2) K (kX5_as l K.2.2.2.2.2.2.2.2.1.2 K.2.2.2.2.2.2.2.2.2.1.2 _ _ τ hM) gL_law_X5_as rfl ⟨rfl, by decide, by decide, by decide +kernel⟩ ⟨Nat.le_of_ble_eq_true rfl, Nat.le_of_ble_eq_true rfl⟩ rfl rfl rfl rfl (by simp only [List.map, List.sum_cons, List.sum_nil, Value.category]; decide) dL_law_1226 ?_
  have r := m_as hR (xs (i + 1).toNatClampNeg) (xs (i + 2).toNatClampNeg)
  refine l_cmp K r.1 dL_law_1229 (by decide) ?_
  exact h0 _ _ r.2 (wX4_as _ _ hD) (wX5_as _ _ hM)
/-- sheet -/
theorem law_c38 (K : LK p s m c b L xs GD GM) (h0 : ∀ σ9 τ9 : sg, RG σ9 τ9 → WD σ9 → WM τ9 → LW p l e s m below meth c Q b GD GM i 1524 [] σ9 τ9) (hR : RG σ τ) (hD : WD σ) (hM : WM τ) (hin : ∀ v : Int32, 0 ≤ v.toInt → v.toInt ≤ 5 → vp_in (i + v) L) : LW p l e s m below meth c Q b GD GM i 1234 [] σ τ := by
  refine l_x K dL_law_1234 ?_
  refine l_arg K 1 1 (by decide) (hin 1 (by decide) (by decide)) dL_law_1235 dL_law_1236 dL_law_1237 dL_law_1238 dL_law_1239 ?_
  refine l_arg K 2 2 (by decide) (hin 2 (by decide) (by decide)) dL_law_1240 dL_law_1241 dL_law_1242 dL_law_1243 dL_law_1244 ?_
  refine l_arg K 3 3 (by decide) (hin 3 (by decide) (by decide)) dL_law_1245 dL_law_1246 dL_law_1247 dL_law_1248 dL_law_1249 ?_
  refine l_callX (n := 3) K (kX4_sheet l K.2.2.2.2.2.2.2.2.1.1 K.2.2.2.2.2.2.2.2.2.1.1 _ _ _ σ hD) gL_law_X4_sheet rfl ⟨rfl, by decide, by decide, by decide +kernel⟩ ⟨Nat.le_of_ble_eq_true rfl, Nat.le_of_ble_eq_true rfl⟩ rfl rfl rfl rfl (by decide) dL_law_1250 ?_
  refine l_m K dL_law_1253 ?_
  refine l_arg K 1 1 (by decide) (hin 1 (by decide) (by decide)) dL_law_1254 dL_law_1255 dL_law_1256 dL_law_1257 dL_law_1258 ?_
  refine l_arg K 2 2 (by decide) (hin 2 (by decide) (by decide)) dL_law_1259 dL_law_1260 dL_law_1261 dL_law_1262 dL_law_1263 ?_
  refine l_arg K 3 3 (by decide) (hin 3 (by decide) (by decide)) dL_law_1264 dL_law_1265 dL_law_1266 dL_law_1267 dL_law_1268 ?_
  refine l_callM (n := 3) K (kX5_sheet l K.2.2.2.2.2.2.2.2.1.2 K.2.2.2.2.2.2.2.2.2.1.2 _ _ _ τ hM) gL_law_X5_sheet rfl ⟨rfl, by decide, by decide, by decide +kernel⟩ ⟨Nat.le_of_ble_eq_true rfl, Nat.le_of_ble_eq_true rfl⟩ rfl rfl rfl rfl (by simp only [List.map, List.sum_cons, List.sum_nil, Value.category]; decide) dL_law_1269 ?_
  have r := m_sheet hR (xs (i + 1).toNatClampNeg) (xs (i + 2).toNatClampNeg) (xs (i + 3).toNatClampNeg)
  refine l_cmp K r.1 dL_law_1272 (by decide) ?_
  exact h0 _ _ r.2 (wX4_sheet _ _ _ hD) (wX5_sheet _ _ _ hM)
/-- write -/
theorem law_c39 (K : LK p s m c b L xs GD GM) (h0 : ∀ σ9 τ9 : sg, RG σ9 τ9 → WD σ9 → WM τ9 → LW p l e s m below meth c Q b GD GM i 1524 [] σ9 τ9) (hR : RG σ τ) (hD : WD σ) (hM : WM τ) (hin : ∀ v : Int32, 0 ≤ v.toInt → v.toInt ≤ 5 → vp_in (i + v) L) : LW p l e s m below meth c Q b GD GM i 1277 [] σ τ := by
  refine l_x K dL_law_1277 ?_
  refine l_arg K 1 1 (by decide) (hin 1 (by decide) (by decide)) dL_law_1278 dL_law_1279 dL_law_1280 dL_law_1281 dL_law_1282 ?_
  refine l_arg K 2 2 (by decide) (hin 2 (by decide) (by decide)) dL_law_1283 dL_law_1284 dL_law_1285 dL_law_1286 dL_law_1287 ?_
  refine l_arg K 3 3 (by decide) (hin 3 (by decide) (by decide)) dL_law_1288 dL_law_1289 dL_law_1290 dL_law_1291 dL_law_1292 ?_
  refine l_callX (n := 3) K (kX4_write l K.2.2.2.2.2.2.2.2.1.1 K.2.2.2.2.2.2.2.2.2.1.1 _ _ _ σ hD) gL_law_X4_write rfl ⟨rfl, by decide, by decide, by decide +kernel⟩ ⟨Nat.le_of_ble_eq_true rfl, Nat.le_of_ble_eq_true rfl⟩ rfl rfl rfl rfl (by decide) dL_law_1293 ?_
  refine l_m K dL_law_1296 ?_
  refine l_arg K 1 1 (by decide) (hin 1 (by decide) (by decide)) dL_law_1297 dL_law_1298 dL_law_1299 dL_law_1300 dL_law_1301 ?_
  refine l_arg K 2 2 (by decide) (hin 2 (by decide) (by decide)) dL_law_1302 dL_law_1303 dL_law_1304 dL_law_1305 dL_law_1306 ?_
  refine l_arg K 3 3 (by decide) (hin 3 (by decide) (by decide)) dL_law_1307 dL_law_1308 dL_law_1309 dL_law_1310 dL_law_1311 ?_
  refine l_callM (n := 3) K (kX5_write l K.2.2.2.2.2.2.2.2.1.2 K.2.2.2.2.2.2.2.2.2.1.2 _ _ _ τ hM) gL_law_X5_write rfl ⟨rfl, by decide, by decide, by decide +kernel⟩ ⟨Nat.le_of_ble_eq_true rfl, Nat.le_of_ble_eq_true rfl⟩ rfl rfl rfl rfl (by simp only [List.map, List.sum_cons, List.sum_nil, Value.category]; decide) dL_law_1312 ?_
  have r := m_write hR (xs (i + 1).toNatClampNeg) (xs (i + 2).toNatClampNeg) (xs (i + 3).toNatClampNeg)
  refine l_cmp K r.1 dL_law_1315 (by decide) ?_
  exact h0 _ _ r.2 (wX4_write _ _ _ hD) (wX5_write _ _ _ hM)
/-- copy -/
theorem law_c40 (K : LK p s m c b L xs GD GM) (h0 : ∀ σ9 τ9 : sg, RG σ9 τ9 → WD σ9 → WM τ9 → LW p l e s m below meth c Q b GD GM i 1524 [] σ9 τ9) (hR : RG σ τ) (hD : WD σ) (hM : WM τ) (hin : ∀ v : Int32, 0 ≤ v.toInt → v.toInt ≤ 5 → vp_in (i + v) L) : LW p l e s m below meth c Q b GD GM i 1320 [] σ τ := by
  refine l_x K dL_law_1320 ?_
  refine l_arg K 1 1 (by decide) (hin 1 (by decide) (by decide)) dL_law_1321 dL_law_1322 dL_law_1323 dL_law_1324 dL_law_1325 ?_
  refine l_arg K 2 2 (by decide) (hin 2 (by decide) (by decide)) dL_law_1326 dL_law_1327 dL_law_1328 dL_law_1329 dL_law_1330 ?_
  refine l_arg K 3 3 (by decide) (hin 3 (by decide) (by decide)) dL_law_1331 dL_law_1332 dL_law_1333 dL_law_1334 dL_law_1335 ?_
  refine l_arg K 4 4 (by decide) (hin 4 (by decide) (by decide)) dL_law_1336 dL_law_1337 dL_law_1338 dL_law_1339 dL_law_1340 ?_
  refine l_arg K 5 5 (by decide) (hin 5 (by decide) (by decide)) dL_law_1341 dL_law_1342 dL_law_1343 dL_law_1344 dL_law_1345 ?_
  refine l_callX (n := 5) K (kX4_copy l K.2.2.2.2.2.2.2.2.1.1 K.2.2.2.2.2.2.2.2.2.1.1 _ _ _ _ _ σ hD) gL_law_X4_copy rfl ⟨rfl, by decide, by decide, by decide +kernel⟩ ⟨Nat.le_of_ble_eq_true rfl, Nat.le_of_ble_eq_true rfl⟩ rfl rfl rfl rfl (by decide) dL_law_1346 ?_
  refine l_m K dL_law_1349 ?_
  refine l_arg K 1 1 (by decide) (hin 1 (by decide) (by decide)) dL_law_1350 dL_law_1351 dL_law_1352 dL_law_1353 dL_law_1354 ?_
  refine l_arg K 2 2 (by decide) (hin 2 (by decide) (by decide)) dL_law_1355 dL_law_1356 dL_law_1357 dL_law_1358 dL_law_1359 ?_
  refine l_arg K 3 3 (by decide) (hin 3 (by decide) (by decide)) dL_law_1360 dL_law_1361 dL_law_1362 dL_law_1363 dL_law_1364 ?_
  refine l_arg K 4 4 (by decide) (hin 4 (by decide) (by decide)) dL_law_1365 dL_law_1366 dL_law_1367 dL_law_1368 dL_law_1369 ?_
  refine l_arg K 5 5 (by decide) (hin 5 (by decide) (by decide)) dL_law_1370 dL_law_1371 dL_law_1372 dL_law_1373 dL_law_1374 ?_
  refine l_callM (n := 5) K (kX5_copy l K.2.2.2.2.2.2.2.2.1.2 K.2.2.2.2.2.2.2.2.2.1.2 _ _ _ _ _ τ hM) gL_law_X5_copy rfl ⟨rfl, by decide, by decide, by decide +kernel⟩ ⟨Nat.le_of_ble_eq_true rfl, Nat.le_of_ble_eq_true rfl⟩ rfl rfl rfl rfl (by simp only [List.map, List.sum_cons, List.sum_nil, Value.category]; decide) dL_law_1375 ?_
  have r := m_copy hR (xs (i + 1).toNatClampNeg) (xs (i + 2).toNatClampNeg) (xs (i + 3).toNatClampNeg) (xs (i + 4).toNatClampNeg) (xs (i + 5).toNatClampNeg)
  refine l_cmp K r.1 dL_law_1378 (by decide) ?_
  exact h0 _ _ r.2 (wX4_copy _ _ _ _ _ hD) (wX5_copy _ _ _ _ _ hM)
/-- load -/
theorem law_c41 (K : LK p s m c b L xs GD GM) (h0 : ∀ σ9 τ9 : sg, RG σ9 τ9 → WD σ9 → WM τ9 → LW p l e s m below meth c Q b GD GM i 1524 [] σ9 τ9) (hR : RG σ τ) (hD : WD σ) (hM : WM τ) (hin : ∀ v : Int32, 0 ≤ v.toInt → v.toInt ≤ 5 → vp_in (i + v) L) : LW p l e s m below meth c Q b GD GM i 1383 [] σ τ := by
  refine l_x K dL_law_1383 ?_
  refine l_arg K 1 1 (by decide) (hin 1 (by decide) (by decide)) dL_law_1384 dL_law_1385 dL_law_1386 dL_law_1387 dL_law_1388 ?_
  refine l_callX (n := 1) K (kX4_load l K.2.2.2.2.2.2.2.2.1.1 K.2.2.2.2.2.2.2.2.2.1.1 _ σ hD) gL_law_X4_load rfl ⟨rfl, by decide, by decide, by decide +kernel⟩ ⟨Nat.le_of_ble_eq_true rfl, Nat.le_of_ble_eq_true rfl⟩ rfl rfl rfl rfl (by decide) dL_law_1389 ?_
  refine l_m K dL_law_1392 ?_
  refine l_arg K 1 1 (by decide) (hin 1 (by decide) (by decide)) dL_law_1393 dL_law_1394 dL_law_1395 dL_law_1396 dL_law_1397 ?_
  refine l_callM (n := 1) K (kX5_load l K.2.2.2.2.2.2.2.2.1.2 K.2.2.2.2.2.2.2.2.2.1.2 _ τ hM) gL_law_X5_load rfl ⟨rfl, by decide, by decide, by decide +kernel⟩ ⟨Nat.le_of_ble_eq_true rfl, Nat.le_of_ble_eq_true rfl⟩ rfl rfl rfl rfl (by simp only [List.map, List.sum_cons, List.sum_nil, Value.category]; decide) dL_law_1398 ?_
  have r := m_load hR (xs (i + 1).toNatClampNeg)
  refine l_cmp K r.1 dL_law_1401 (by decide) ?_
  exact h0 _ _ r.2 (wX4_load _ hD) (wX5_load _ hM)
/-- judge -/
theorem law_c42 (K : LK p s m c b L xs GD GM) (h0 : ∀ σ9 τ9 : sg, RG σ9 τ9 → WD σ9 → WM τ9 → LW p l e s m below meth c Q b GD GM i 1524 [] σ9 τ9) (hR : RG σ τ) (hD : WD σ) (hM : WM τ) (hin : ∀ v : Int32, 0 ≤ v.toInt → v.toInt ≤ 5 → vp_in (i + v) L) : LW p l e s m below meth c Q b GD GM i 1406 [] σ τ := by
  refine l_x K dL_law_1406 ?_
  refine l_arg K 1 1 (by decide) (hin 1 (by decide) (by decide)) dL_law_1407 dL_law_1408 dL_law_1409 dL_law_1410 dL_law_1411 ?_
  refine l_arg K 2 2 (by decide) (hin 2 (by decide) (by decide)) dL_law_1412 dL_law_1413 dL_law_1414 dL_law_1415 dL_law_1416 ?_
  refine l_callX (n := 2) K (kX4_judge l K.2.2.2.2.2.2.2.2.1.1 K.2.2.2.2.2.2.2.2.2.1.1 _ _ σ hD) gL_law_X4_judge rfl ⟨rfl, by decide, by decide, by decide +kernel⟩ ⟨Nat.le_of_ble_eq_true rfl, Nat.le_of_ble_eq_true rfl⟩ rfl rfl rfl rfl (by decide) dL_law_1417 ?_
  refine l_m K dL_law_1420 ?_
  refine l_arg K 1 1 (by decide) (hin 1 (by decide) (by decide)) dL_law_1421 dL_law_1422 dL_law_1423 dL_law_1424 dL_law_1425 ?_
  refine l_arg K 2 2 (by decide) (hin 2 (by decide) (by decide)) dL_law_1426 dL_law_1427 dL_law_1428 dL_law_1429 dL_law_1430 ?_
  refine l_callM (n := 2) K (kX5_judge l K.2.2.2.2.2.2.2.2.1.2 K.2.2.2.2.2.2.2.2.2.1.2 _ _ τ hM) gL_law_X5_judge rfl ⟨rfl, by decide, by decide, by decide +kernel⟩ ⟨Nat.le_of_ble_eq_true rfl, Nat.le_of_ble_eq_true rfl⟩ rfl rfl rfl rfl (by simp only [List.map, List.sum_cons, List.sum_nil, Value.category]; decide) dL_law_1431 ?_
  have r := m_judge hR (xs (i + 1).toNatClampNeg) (xs (i + 2).toNatClampNeg)
  refine l_cmp K r.1 dL_law_1434 (by decide) ?_
  exact h0 _ _ r.2 (wX4_judge _ _ hD) (wX5_judge _ _ hM)
/-- image -/
theorem law_c43 (K : LK p s m c b L xs GD GM) (h0 : ∀ σ9 τ9 : sg, RG σ9 τ9 → WD σ9 → WM τ9 → LW p l e s m below meth c Q b GD GM i 1524 [] σ9 τ9) (hR : RG σ τ) (hD : WD σ) (hM : WM τ) (hin : ∀ v : Int32, 0 ≤ v.toInt → v.toInt ≤ 5 → vp_in (i + v) L) : LW p l e s m below meth c Q b GD GM i 1439 [] σ τ := by
  refine l_x K dL_law_1439 ?_
  refine l_callX (n := 0) K (kX4_image l K.2.2.2.2.2.2.2.2.1.1 K.2.2.2.2.2.2.2.2.2.1.1  σ hD) gL_law_X4_image rfl ⟨rfl, by decide, by decide, by decide +kernel⟩ ⟨Nat.le_of_ble_eq_true rfl, Nat.le_of_ble_eq_true rfl⟩ rfl rfl rfl rfl (by decide) dL_law_1440 ?_
  refine l_m K dL_law_1443 ?_
  refine l_callM (n := 0) K (kX5_image l K.2.2.2.2.2.2.2.2.1.2 K.2.2.2.2.2.2.2.2.2.1.2  τ hM) gL_law_X5_image rfl ⟨rfl, by decide, by decide, by decide +kernel⟩ ⟨Nat.le_of_ble_eq_true rfl, Nat.le_of_ble_eq_true rfl⟩ rfl rfl rfl rfl (by simp only [List.map, List.sum_cons, List.sum_nil, Value.category]; decide) dL_law_1444 ?_
  have r := m_image hR 
  refine l_cmp K r.1 dL_law_1447 (by decide) ?_
  exact h0 _ _ r.2 (wX4_image  hD) (wX5_image  hM)
/-- undo -/
theorem law_c44 (K : LK p s m c b L xs GD GM) (h0 : ∀ σ9 τ9 : sg, RG σ9 τ9 → WD σ9 → WM τ9 → LW p l e s m below meth c Q b GD GM i 1524 [] σ9 τ9) (hR : RG σ τ) (hD : WD σ) (hM : WM τ) (hin : ∀ v : Int32, 0 ≤ v.toInt → v.toInt ≤ 5 → vp_in (i + v) L) : LW p l e s m below meth c Q b GD GM i 1452 [] σ τ := by
  refine l_x K dL_law_1452 ?_
  refine l_callX (n := 0) K (kX4_undo l K.2.2.2.2.2.2.2.2.1.1 K.2.2.2.2.2.2.2.2.2.1.1  σ hD) gL_law_X4_undo rfl ⟨rfl, by decide, by decide, by decide +kernel⟩ ⟨Nat.le_of_ble_eq_true rfl, Nat.le_of_ble_eq_true rfl⟩ rfl rfl rfl rfl (by decide) dL_law_1453 ?_
  refine l_m K dL_law_1456 ?_
  refine l_callM (n := 0) K (kX5_undo l K.2.2.2.2.2.2.2.2.1.2 K.2.2.2.2.2.2.2.2.2.1.2  τ hM) gL_law_X5_undo rfl ⟨rfl, by decide, by decide, by decide +kernel⟩ ⟨Nat.le_of_ble_eq_true rfl, Nat.le_of_ble_eq_true rfl⟩ rfl rfl rfl rfl (by simp only [List.map, List.sum_cons, List.sum_nil, Value.category]; decide) dL_law_1457 ?_
  have r := m_undo hR 
  refine l_cmp K r.1 dL_law_1460 (by decide) ?_
  exact h0 _ _ r.2 (wX4_undo  hD) (wX5_undo  hM)
/-- tear -/
theorem law_c45 (K : LK p s m c b L xs GD GM) (h0 : ∀ σ9 τ9 : sg, RG σ9 τ9 → WD σ9 → WM τ9 → LW p l e s m below meth c Q b GD GM i 1524 [] σ9 τ9) (hR : RG σ τ) (hD : WD σ) (hM : WM τ) (hin : ∀ v : Int32, 0 ≤ v.toInt → v.toInt ≤ 5 → vp_in (i + v) L) : LW p l e s m below meth c Q b GD GM i 1465 [] σ τ := by
  refine l_x K dL_law_1465 ?_
  refine l_callX (n := 0) K (kX4_tear l K.2.2.2.2.2.2.2.2.1.1 K.2.2.2.2.2.2.2.2.2.1.1  σ hD) gL_law_X4_tear rfl ⟨rfl, by decide, by decide, by decide +kernel⟩ ⟨Nat.le_of_ble_eq_true rfl, Nat.le_of_ble_eq_true rfl⟩ rfl rfl rfl rfl (by decide) dL_law_1466 ?_
  refine l_m K dL_law_1469 ?_
  refine l_callM (n := 0) K (kX5_tear l K.2.2.2.2.2.2.2.2.1.2 K.2.2.2.2.2.2.2.2.2.1.2  τ hM) gL_law_X5_tear rfl ⟨rfl, by decide, by decide, by decide +kernel⟩ ⟨Nat.le_of_ble_eq_true rfl, Nat.le_of_ble_eq_true rfl⟩ rfl rfl rfl rfl (by simp only [List.map, List.sum_cons, List.sum_nil, Value.category]; decide) dL_law_1470 ?_
  have r := m_tear hR 
  refine l_cmp K r.1 dL_law_1473 (by decide) ?_
  exact h0 _ _ r.2 (wX4_tear  hD) (wX5_tear  hM)
/-- count -/
theorem law_c46 (K : LK p s m c b L xs GD GM) (h0 : ∀ σ9 τ9 : sg, RG σ9 τ9 → WD σ9 → WM τ9 → LW p l e s m below meth c Q b GD GM i 1524 [] σ9 τ9) (hR : RG σ τ) (hD : WD σ) (hM : WM τ) (hin : ∀ v : Int32, 0 ≤ v.toInt → v.toInt ≤ 5 → vp_in (i + v) L) : LW p l e s m below meth c Q b GD GM i 1478 [] σ τ := by
  refine l_x K dL_law_1478 ?_
  refine l_arg K 1 1 (by decide) (hin 1 (by decide) (by decide)) dL_law_1479 dL_law_1480 dL_law_1481 dL_law_1482 dL_law_1483 ?_
  refine l_callX (n := 1) K (kX4_count l K.2.2.2.2.2.2.2.2.1.1 K.2.2.2.2.2.2.2.2.2.1.1 _ σ hD) gL_law_X4_count rfl ⟨rfl, by decide, by decide, by decide +kernel⟩ ⟨Nat.le_of_ble_eq_true rfl, Nat.le_of_ble_eq_true rfl⟩ rfl rfl rfl rfl (by decide) dL_law_1484 ?_
  refine l_m K dL_law_1487 ?_
  refine l_arg K 1 1 (by decide) (hin 1 (by decide) (by decide)) dL_law_1488 dL_law_1489 dL_law_1490 dL_law_1491 dL_law_1492 ?_
  refine l_callM (n := 1) K (kX5_count l K.2.2.2.2.2.2.2.2.1.2 K.2.2.2.2.2.2.2.2.2.1.2 _ τ hM) gL_law_X5_count rfl ⟨rfl, by decide, by decide, by decide +kernel⟩ ⟨Nat.le_of_ble_eq_true rfl, Nat.le_of_ble_eq_true rfl⟩ rfl rfl rfl rfl (by simp only [List.map, List.sum_cons, List.sum_nil, Value.category]; decide) dL_law_1493 ?_
  have r := m_count hR (xs (i + 1).toNatClampNeg)
  refine l_cmp K r.1 dL_law_1496 (by decide) ?_
  exact h0 _ _ r.2 (wX4_count _ hD) (wX5_count _ hM)
/-- status -/
theorem law_c47 (K : LK p s m c b L xs GD GM) (h0 : ∀ σ9 τ9 : sg, RG σ9 τ9 → WD σ9 → WM τ9 → LW p l e s m below meth c Q b GD GM i 1524 [] σ9 τ9) (hR : RG σ τ) (hD : WD σ) (hM : WM τ) (hin : ∀ v : Int32, 0 ≤ v.toInt → v.toInt ≤ 5 → vp_in (i + v) L) : LW p l e s m below meth c Q b GD GM i 1501 [] σ τ := by
  refine l_x K dL_law_1501 ?_
  refine l_arg K 1 1 (by decide) (hin 1 (by decide) (by decide)) dL_law_1502 dL_law_1503 dL_law_1504 dL_law_1505 dL_law_1506 ?_
  refine l_callX (n := 1) K (kX4_status l K.2.2.2.2.2.2.2.2.1.1 K.2.2.2.2.2.2.2.2.2.1.1 _ σ hD) gL_law_X4_status rfl ⟨rfl, by decide, by decide, by decide +kernel⟩ ⟨Nat.le_of_ble_eq_true rfl, Nat.le_of_ble_eq_true rfl⟩ rfl rfl rfl rfl (by decide) dL_law_1507 ?_
  refine l_m K dL_law_1510 ?_
  refine l_arg K 1 1 (by decide) (hin 1 (by decide) (by decide)) dL_law_1511 dL_law_1512 dL_law_1513 dL_law_1514 dL_law_1515 ?_
  refine l_callM (n := 1) K (kX5_status l K.2.2.2.2.2.2.2.2.1.2 K.2.2.2.2.2.2.2.2.2.1.2 _ τ hM) gL_law_X5_status rfl ⟨rfl, by decide, by decide, by decide +kernel⟩ ⟨Nat.le_of_ble_eq_true rfl, Nat.le_of_ble_eq_true rfl⟩ rfl rfl rfl rfl (by simp only [List.map, List.sum_cons, List.sum_nil, Value.category]; decide) dL_law_1516 ?_
  have r := m_status hR (xs (i + 1).toNatClampNeg)
  refine l_cmp K r.1 dL_law_1519 (by decide) ?_
  exact h0 _ _ r.2 (wX4_status _ hD) (wX5_status _ hM)
end LC
