section LCS
variable {w : WD} {p : Program} {e : Env} {s : State} {m : MethodId} {below : List Frame} {meth : Method} {c : Code} {b L : Nat} {xs : Nat → Int32} {i : Nat} {X : XS}
theorem lc_field (hA : LA w p s m meth c b L xs) (hi : i + 6 ≤ L) (hJ : J X) (NX : ∀ Z : XS, J Z → LGo w p e s m below meth c b i 1295 [] Z) : LGo w p e s m below meth c b i 196 [] X := by
  refine l_x hA dl_196 ?_
  refine l_arg hA 1 (by omega) (by omega) dl_197 dl_198 dl_199 dl_200 dl_201 ?_
  refine l_arg hA 2 (by omega) (by omega) dl_202 dl_203 dl_204 dl_205 dl_206 ?_
  refine l_arg hA 3 (by omega) (by omega) dl_207 dl_208 dl_209 dl_210 dl_211 ?_
  refine l_arg hA 4 (by omega) (by omega) dl_212 dl_213 dl_214 dl_215 dl_216 ?_
  obtain ⟨Q1, hM1, h2⟩ := p_field w (xs (i + 1)).toInt (xs (i + 2)).toInt (xs (i + 3)).toInt (xs (i + 4)).toInt X hJ
  refine l_call hA (k := 13) (f := M_Tf_field) (tbm 303 (by decide +kernel) rfl) okM_Tf_field (id := 1) (as' := [.inl (xs (i + 1)).toInt, .inl (xs (i + 2)).toInt, .inl (xs (i + 3)).toInt, .inl (xs (i + 4)).toInt]) (r := []) hM1 rfl dl_217 rfl (fun z Y hq => ?_)
  obtain ⟨Q2, hM2, h3⟩ := h2 z Y hq
  refine l_m hA dl_220 ?_
  refine l_arg hA 1 (by omega) (by omega) dl_221 dl_222 dl_223 dl_224 dl_225 ?_
  refine l_arg hA 2 (by omega) (by omega) dl_226 dl_227 dl_228 dl_229 dl_230 ?_
  refine l_arg hA 3 (by omega) (by omega) dl_231 dl_232 dl_233 dl_234 dl_235 ?_
  refine l_arg hA 4 (by omega) (by omega) dl_236 dl_237 dl_238 dl_239 dl_240 ?_
  refine l_call hA (k := 17) (f := M_Mo_field) (tbm 798 (by decide +kernel) rfl) okM_Mo_field (id := 43) (as' := [.inl (xs (i + 1)).toInt, .inl (xs (i + 2)).toInt, .inl (xs (i + 3)).toInt, .inl (xs (i + 4)).toInt]) (r := pres M_Tf_field.2.2.2.1 z []) hM2 rfl dl_241 rfl (fun z' Z hq' => ?_)
  obtain ⟨ez, hJ'⟩ := h3 z' Z hq'
  subst ez
  exact l_eq hA (z := z') dl_244 (by decide) (NX Z hJ')
theorem lc_sign (hA : LA w p s m meth c b L xs) (hi : i + 6 ≤ L) (hJ : J X) (NX : ∀ Z : XS, J Z → LGo w p e s m below meth c b i 1295 [] Z) : LGo w p e s m below meth c b i 249 [] X := by
  refine l_x hA dl_249 ?_
  refine l_arg hA 1 (by omega) (by omega) dl_250 dl_251 dl_252 dl_253 dl_254 ?_
  obtain ⟨Q1, hM1, h2⟩ := p_sign w (xs (i + 1)).toInt X hJ
  refine l_call hA (k := 18) (f := M_Tf_sign) (tbm 384 (by decide +kernel) rfl) okM_Tf_sign (id := 1) (as' := [.inl (xs (i + 1)).toInt]) (r := []) hM1 rfl dl_255 rfl (fun z Y hq => ?_)
  obtain ⟨Q2, hM2, h3⟩ := h2 z Y hq
  refine l_m hA dl_258 ?_
  refine l_arg hA 1 (by omega) (by omega) dl_259 dl_260 dl_261 dl_262 dl_263 ?_
  refine l_call hA (k := 22) (f := M_Mo_sign) (tbm 835 (by decide +kernel) rfl) okM_Mo_sign (id := 43) (as' := [.inl (xs (i + 1)).toInt]) (r := pres M_Tf_sign.2.2.2.1 z []) hM2 rfl dl_264 rfl (fun z' Z hq' => ?_)
  obtain ⟨ez, hJ'⟩ := h3 z' Z hq'
  subst ez
  exact l_eq hA (z := z') dl_267 (by decide) (NX Z hJ')
theorem lc_ofMan (hA : LA w p s m meth c b L xs) (hi : i + 6 ≤ L) (hJ : J X) (NX : ∀ Z : XS, J Z → LGo w p e s m below meth c b i 1295 [] Z) : LGo w p e s m below meth c b i 272 [] X := by
  refine l_x hA dl_272 ?_
  refine l_arg hA 1 (by omega) (by omega) dl_273 dl_274 dl_275 dl_276 dl_277 ?_
  refine l_arg hA 2 (by omega) (by omega) dl_278 dl_279 dl_280 dl_281 dl_282 ?_
  obtain ⟨Q1, hM1, h2⟩ := p_ofMan w (xs (i + 1)).toInt (xs (i + 2)).toInt X hJ
  refine l_call hA (k := 23) (f := M_Tf_ofMan) (tbm 388 (by decide +kernel) rfl) okM_Tf_ofMan (id := 1) (as' := [.inl (xs (i + 1)).toInt, .inl (xs (i + 2)).toInt]) (r := []) hM1 rfl dl_283 rfl (fun z Y hq => ?_)
  obtain ⟨Q2, hM2, h3⟩ := h2 z Y hq
  refine l_m hA dl_286 ?_
  refine l_arg hA 1 (by omega) (by omega) dl_287 dl_288 dl_289 dl_290 dl_291 ?_
  refine l_arg hA 2 (by omega) (by omega) dl_292 dl_293 dl_294 dl_295 dl_296 ?_
  refine l_call hA (k := 27) (f := M_Mo_ofMan) (tbm 847 (by decide +kernel) rfl) okM_Mo_ofMan (id := 43) (as' := [.inl (xs (i + 1)).toInt, .inl (xs (i + 2)).toInt]) (r := pres M_Tf_ofMan.2.2.2.1 z []) hM2 rfl dl_297 rfl (fun z' Z hq' => ?_)
  obtain ⟨ez, hJ'⟩ := h3 z' Z hq'
  subst ez
  exact l_eq hA (z := z') dl_300 (by decide) (NX Z hJ')
theorem lc_far (hA : LA w p s m meth c b L xs) (hi : i + 6 ≤ L) (hJ : J X) (NX : ∀ Z : XS, J Z → LGo w p e s m below meth c b i 1295 [] Z) : LGo w p e s m below meth c b i 305 [] X := by
  refine l_x hA dl_305 ?_
  refine l_arg hA 1 (by omega) (by omega) dl_306 dl_307 dl_308 dl_309 dl_310 ?_
  refine l_arg hA 2 (by omega) (by omega) dl_311 dl_312 dl_313 dl_314 dl_315 ?_
  obtain ⟨Q1, hM1, h2⟩ := p_far w (xs (i + 1)).toInt (xs (i + 2)).toInt X hJ
  refine l_call hA (k := 28) (f := M_Tf_far) (tbm 404 (by decide +kernel) rfl) okM_Tf_far (id := 1) (as' := [.inl (xs (i + 1)).toInt, .inl (xs (i + 2)).toInt]) (r := []) hM1 rfl dl_316 rfl (fun z Y hq => ?_)
  obtain ⟨Q2, hM2, h3⟩ := h2 z Y hq
  refine l_m hA dl_319 ?_
  refine l_arg hA 1 (by omega) (by omega) dl_320 dl_321 dl_322 dl_323 dl_324 ?_
  refine l_arg hA 2 (by omega) (by omega) dl_325 dl_326 dl_327 dl_328 dl_329 ?_
  refine l_call hA (k := 31) (f := M_Mo_far) (tbm 863 (by decide +kernel) rfl) okM_Mo_far (id := 43) (as' := [.inl (xs (i + 1)).toInt, .inl (xs (i + 2)).toInt]) (r := pres M_Tf_far.2.2.2.1 z []) hM2 rfl dl_330 rfl (fun z' Z hq' => ?_)
  obtain ⟨ez, hJ'⟩ := h3 z' Z hq'
  subst ez
  exact l_eq hA (z := z') dl_333 (by decide) (NX Z hJ')
theorem lc_law (hA : LA w p s m meth c b L xs) (hi : i + 6 ≤ L) (hJ : J X) (NX : ∀ Z : XS, J Z → LGo w p e s m below meth c b i 1295 [] Z) : LGo w p e s m below meth c b i 338 [] X := by
  refine l_x hA dl_338 ?_
  refine l_arg hA 1 (by omega) (by omega) dl_339 dl_340 dl_341 dl_342 dl_343 ?_
  obtain ⟨Q1, hM1, h2⟩ := p_law w (xs (i + 1)).toInt X hJ
  refine l_call hA (k := 32) (f := M_Tf_law) (tbm 412 (by decide +kernel) rfl) okM_Tf_law (id := 1) (as' := [.inl (xs (i + 1)).toInt]) (r := []) hM1 rfl dl_344 rfl (fun z Y hq => ?_)
  obtain ⟨Q2, hM2, h3⟩ := h2 z Y hq
  refine l_m hA dl_347 ?_
  refine l_arg hA 1 (by omega) (by omega) dl_348 dl_349 dl_350 dl_351 dl_352 ?_
  refine l_call hA (k := 35) (f := M_Mo_law) (tbm 874 (by decide +kernel) rfl) okM_Mo_law (id := 43) (as' := [.inl (xs (i + 1)).toInt]) (r := pres M_Tf_law.2.2.2.1 z []) hM2 rfl dl_353 rfl (fun z' Z hq' => ?_)
  obtain ⟨ez, hJ'⟩ := h3 z' Z hq'
  subst ez
  exact l_eq hA (z := z') dl_356 (by decide) (NX Z hJ')
theorem lc_stone (hA : LA w p s m meth c b L xs) (hi : i + 6 ≤ L) (hJ : J X) (NX : ∀ Z : XS, J Z → LGo w p e s m below meth c b i 1295 [] Z) : LGo w p e s m below meth c b i 361 [] X := by
  refine l_x hA dl_361 ?_
  refine l_arg hA 1 (by omega) (by omega) dl_362 dl_363 dl_364 dl_365 dl_366 ?_
  refine l_arg hA 2 (by omega) (by omega) dl_367 dl_368 dl_369 dl_370 dl_371 ?_
  obtain ⟨Q1, hM1, h2⟩ := p_stone w (xs (i + 1)).toInt (xs (i + 2)).toInt X hJ
  refine l_call hA (k := 36) (f := M_Tf_stone) (tbm 416 (by decide +kernel) rfl) okM_Tf_stone (id := 1) (as' := [.inl (xs (i + 1)).toInt, .inl (xs (i + 2)).toInt]) (r := []) hM1 rfl dl_372 rfl (fun z Y hq => ?_)
  obtain ⟨Q2, hM2, h3⟩ := h2 z Y hq
  refine l_m hA dl_375 ?_
  refine l_arg hA 1 (by omega) (by omega) dl_376 dl_377 dl_378 dl_379 dl_380 ?_
  refine l_arg hA 2 (by omega) (by omega) dl_381 dl_382 dl_383 dl_384 dl_385 ?_
  refine l_call hA (k := 39) (f := M_Mo_stone) (tbm 878 (by decide +kernel) rfl) okM_Mo_stone (id := 43) (as' := [.inl (xs (i + 1)).toInt, .inl (xs (i + 2)).toInt]) (r := pres M_Tf_stone.2.2.2.1 z []) hM2 rfl dl_386 rfl (fun z' Z hq' => ?_)
  obtain ⟨ez, hJ'⟩ := h3 z' Z hq'
  subst ez
  exact l_eq hA (z := z') dl_389 (by decide) (NX Z hJ')
theorem lc_undo (hA : LA w p s m meth c b L xs) (hi : i + 6 ≤ L) (hJ : J X) (NX : ∀ Z : XS, J Z → LGo w p e s m below meth c b i 1295 [] Z) : LGo w p e s m below meth c b i 394 [] X := by
  refine l_x hA dl_394 ?_
  refine l_arg hA 1 (by omega) (by omega) dl_395 dl_396 dl_397 dl_398 dl_399 ?_
  obtain ⟨Q1, hM1, h2⟩ := p_undo w (xs (i + 1)).toInt X hJ
  refine l_call hA (k := 40) (f := M_Tf_undo) (tbm 428 (by decide +kernel) rfl) okM_Tf_undo (id := 1) (as' := [.inl (xs (i + 1)).toInt]) (r := []) hM1 rfl dl_400 rfl (fun z Y hq => ?_)
  obtain ⟨Q2, hM2, h3⟩ := h2 z Y hq
  refine l_m hA dl_403 ?_
  refine l_arg hA 1 (by omega) (by omega) dl_404 dl_405 dl_406 dl_407 dl_408 ?_
  refine l_call hA (k := 43) (f := M_Mo_undo) (tbm 889 (by decide +kernel) rfl) okM_Mo_undo (id := 43) (as' := [.inl (xs (i + 1)).toInt]) (r := pres M_Tf_undo.2.2.2.1 z []) hM2 rfl dl_409 rfl (fun z' Z hq' => ?_)
  obtain ⟨ez, hJ'⟩ := h3 z' Z hq'
  subst ez
  exact l_eq hA (z := z') dl_412 (by decide) (NX Z hJ')
theorem lc_stands (hA : LA w p s m meth c b L xs) (hi : i + 6 ≤ L) (hJ : J X) (NX : ∀ Z : XS, J Z → LGo w p e s m below meth c b i 1295 [] Z) : LGo w p e s m below meth c b i 417 [] X := by
  refine l_x hA dl_417 ?_
  refine l_arg hA 1 (by omega) (by omega) dl_418 dl_419 dl_420 dl_421 dl_422 ?_
  obtain ⟨Q1, hM1, h2⟩ := p_stands w (xs (i + 1)).toInt X hJ
  refine l_call hA (k := 44) (f := M_Tf_stands) (tbm 433 (by decide +kernel) rfl) okM_Tf_stands (id := 1) (as' := [.inl (xs (i + 1)).toInt]) (r := []) hM1 rfl dl_423 rfl (fun z Y hq => ?_)
  obtain ⟨Q2, hM2, h3⟩ := h2 z Y hq
  refine l_m hA dl_426 ?_
  refine l_arg hA 1 (by omega) (by omega) dl_427 dl_428 dl_429 dl_430 dl_431 ?_
  refine l_call hA (k := 47) (f := M_Mo_stands) (tbm 893 (by decide +kernel) rfl) okM_Mo_stands (id := 43) (as' := [.inl (xs (i + 1)).toInt]) (r := pres M_Tf_stands.2.2.2.1 z []) hM2 rfl dl_432 rfl (fun z' Z hq' => ?_)
  obtain ⟨ez, hJ'⟩ := h3 z' Z hq'
  subst ez
  exact l_eq hA (z := z') dl_435 (by decide) (NX Z hJ')
theorem lc_foe (hA : LA w p s m meth c b L xs) (hi : i + 6 ≤ L) (hJ : J X) (NX : ∀ Z : XS, J Z → LGo w p e s m below meth c b i 1295 [] Z) : LGo w p e s m below meth c b i 440 [] X := by
  refine l_x hA dl_440 ?_
  refine l_arg hA 1 (by omega) (by omega) dl_441 dl_442 dl_443 dl_444 dl_445 ?_
  refine l_arg hA 2 (by omega) (by omega) dl_446 dl_447 dl_448 dl_449 dl_450 ?_
  obtain ⟨Q1, hM1, h2⟩ := p_foe w (xs (i + 1)).toInt (xs (i + 2)).toInt X hJ
  refine l_call hA (k := 48) (f := M_Tf_foe) (tbm 488 (by decide +kernel) rfl) okM_Tf_foe (id := 1) (as' := [.inl (xs (i + 1)).toInt, .inl (xs (i + 2)).toInt]) (r := []) hM1 rfl dl_451 rfl (fun z Y hq => ?_)
  obtain ⟨Q2, hM2, h3⟩ := h2 z Y hq
  refine l_m hA dl_454 ?_
  refine l_arg hA 1 (by omega) (by omega) dl_455 dl_456 dl_457 dl_458 dl_459 ?_
  refine l_arg hA 2 (by omega) (by omega) dl_460 dl_461 dl_462 dl_463 dl_464 ?_
  refine l_call hA (k := 51) (f := M_Mo_foe) (tbm 933 (by decide +kernel) rfl) okM_Mo_foe (id := 43) (as' := [.inl (xs (i + 1)).toInt, .inl (xs (i + 2)).toInt]) (r := pres M_Tf_foe.2.2.2.1 z []) hM2 rfl dl_465 rfl (fun z' Z hq' => ?_)
  obtain ⟨ez, hJ'⟩ := h3 z' Z hq'
  subst ez
  exact l_eq hA (z := z') dl_468 (by decide) (NX Z hJ')
theorem lc_armour (hA : LA w p s m meth c b L xs) (hi : i + 6 ≤ L) (hJ : J X) (NX : ∀ Z : XS, J Z → LGo w p e s m below meth c b i 1295 [] Z) : LGo w p e s m below meth c b i 473 [] X := by
  refine l_x hA dl_473 ?_
  refine l_arg hA 1 (by omega) (by omega) dl_474 dl_475 dl_476 dl_477 dl_478 ?_
  refine l_arg hA 2 (by omega) (by omega) dl_479 dl_480 dl_481 dl_482 dl_483 ?_
  obtain ⟨Q1, hM1, h2⟩ := p_armour w (xs (i + 1)).toInt (xs (i + 2)).toInt X hJ
  refine l_call hA (k := 52) (f := M_Tf_armour) (tbm 492 (by decide +kernel) rfl) okM_Tf_armour (id := 1) (as' := [.inl (xs (i + 1)).toInt, .inl (xs (i + 2)).toInt]) (r := []) hM1 rfl dl_484 rfl (fun z Y hq => ?_)
  obtain ⟨Q2, hM2, h3⟩ := h2 z Y hq
  refine l_m hA dl_487 ?_
  refine l_arg hA 1 (by omega) (by omega) dl_488 dl_489 dl_490 dl_491 dl_492 ?_
  refine l_arg hA 2 (by omega) (by omega) dl_493 dl_494 dl_495 dl_496 dl_497 ?_
  refine l_call hA (k := 55) (f := M_Mo_armour) (tbm 937 (by decide +kernel) rfl) okM_Mo_armour (id := 43) (as' := [.inl (xs (i + 1)).toInt, .inl (xs (i + 2)).toInt]) (r := pres M_Tf_armour.2.2.2.1 z []) hM2 rfl dl_498 rfl (fun z' Z hq' => ?_)
  obtain ⟨ez, hJ'⟩ := h3 z' Z hq'
  subst ez
  exact l_eq hA (z := z') dl_501 (by decide) (NX Z hJ')
theorem lc_left (hA : LA w p s m meth c b L xs) (hi : i + 6 ≤ L) (hJ : J X) (NX : ∀ Z : XS, J Z → LGo w p e s m below meth c b i 1295 [] Z) : LGo w p e s m below meth c b i 506 [] X := by
  refine l_x hA dl_506 ?_
  obtain ⟨Q1, hM1, h2⟩ := p_left w X hJ
  refine l_call hA (k := 56) (f := M_Tf_left) (tbm 496 (by decide +kernel) rfl) okM_Tf_left (id := 1) (as' := []) (r := []) hM1 rfl dl_507 rfl (fun z Y hq => ?_)
  obtain ⟨Q2, hM2, h3⟩ := h2 z Y hq
  refine l_m hA dl_510 ?_
  refine l_call hA (k := 60) (f := M_Mo_left) (tbm 941 (by decide +kernel) rfl) okM_Mo_left (id := 43) (as' := []) (r := pres M_Tf_left.2.2.2.1 z []) hM2 rfl dl_511 rfl (fun z' Z hq' => ?_)
  obtain ⟨ez, hJ'⟩ := h3 z' Z hq'
  subst ez
  exact l_eq hA (z := z') dl_514 (by decide) (NX Z hJ')
theorem lc_falls (hA : LA w p s m meth c b L xs) (hi : i + 6 ≤ L) (hJ : J X) (NX : ∀ Z : XS, J Z → LGo w p e s m below meth c b i 1295 [] Z) : LGo w p e s m below meth c b i 519 [] X := by
  refine l_x hA dl_519 ?_
  refine l_arg hA 1 (by omega) (by omega) dl_520 dl_521 dl_522 dl_523 dl_524 ?_
  obtain ⟨Q1, hM1, h2⟩ := p_falls w (xs (i + 1)).toInt X hJ
  refine l_call hA (k := 61) (f := M_Tf_falls) (tbm 504 (by decide +kernel) rfl) okM_Tf_falls (id := 1) (as' := [.inl (xs (i + 1)).toInt]) (r := []) hM1 rfl dl_525 rfl (fun z Y hq => ?_)
  obtain ⟨Q2, hM2, h3⟩ := h2 z Y hq
  refine l_m hA dl_528 ?_
  refine l_arg hA 1 (by omega) (by omega) dl_529 dl_530 dl_531 dl_532 dl_533 ?_
  refine l_call hA (k := 64) (f := M_Mo_falls) (tbm 949 (by decide +kernel) rfl) okM_Mo_falls (id := 43) (as' := [.inl (xs (i + 1)).toInt]) (r := pres M_Tf_falls.2.2.2.1 z []) hM2 rfl dl_534 rfl (fun z' Z hq' => ?_)
  obtain ⟨ez, hJ'⟩ := h3 z' Z hq'
  subst ez
  exact l_eq hA (z := z') dl_537 (by decide) (NX Z hJ')
theorem lc_cast (hA : LA w p s m meth c b L xs) (hi : i + 6 ≤ L) (hJ : J X) (NX : ∀ Z : XS, J Z → LGo w p e s m below meth c b i 1295 [] Z) : LGo w p e s m below meth c b i 542 [] X := by
  refine l_x hA dl_542 ?_
  refine l_arg hA 1 (by omega) (by omega) dl_543 dl_544 dl_545 dl_546 dl_547 ?_
  refine l_arg hA 2 (by omega) (by omega) dl_548 dl_549 dl_550 dl_551 dl_552 ?_
  obtain ⟨Q1, hM1, h2⟩ := p_cast w (xs (i + 1)).toInt (xs (i + 2)).toInt X hJ
  refine l_call hA (k := 65) (f := M_Tf_cast) (tbm 508 (by decide +kernel) rfl) okM_Tf_cast (id := 1) (as' := [.inl (xs (i + 1)).toInt, .inl (xs (i + 2)).toInt]) (r := []) hM1 rfl dl_553 rfl (fun z Y hq => ?_)
  obtain ⟨Q2, hM2, h3⟩ := h2 z Y hq
  refine l_m hA dl_556 ?_
  refine l_arg hA 1 (by omega) (by omega) dl_557 dl_558 dl_559 dl_560 dl_561 ?_
  refine l_arg hA 2 (by omega) (by omega) dl_562 dl_563 dl_564 dl_565 dl_566 ?_
  refine l_call hA (k := 68) (f := M_Mo_cast) (tbm 953 (by decide +kernel) rfl) okM_Mo_cast (id := 43) (as' := [.inl (xs (i + 1)).toInt, .inl (xs (i + 2)).toInt]) (r := pres M_Tf_cast.2.2.2.1 z []) hM2 rfl dl_567 rfl (fun z' Z hq' => ?_)
  obtain ⟨ez, hJ'⟩ := h3 z' Z hq'
  subst ez
  exact l_eq hA (z := z') dl_570 (by decide) (NX Z hJ')
theorem lc_save (hA : LA w p s m meth c b L xs) (hi : i + 6 ≤ L) (hJ : J X) (NX : ∀ Z : XS, J Z → LGo w p e s m below meth c b i 1295 [] Z) : LGo w p e s m below meth c b i 575 [] X := by
  refine l_x hA dl_575 ?_
  refine l_arg hA 1 (by omega) (by omega) dl_576 dl_577 dl_578 dl_579 dl_580 ?_
  refine l_arg hA 2 (by omega) (by omega) dl_581 dl_582 dl_583 dl_584 dl_585 ?_
  obtain ⟨Q1, hM1, h2⟩ := p_save w (xs (i + 1)).toInt (xs (i + 2)).toInt X hJ
  refine l_call hA (k := 69) (f := M_Tf_save) (tbm 527 (by decide +kernel) rfl) okM_Tf_save (id := 1) (as' := [.inl (xs (i + 1)).toInt, .inl (xs (i + 2)).toInt]) (r := []) hM1 rfl dl_586 rfl (fun z Y hq => ?_)
  obtain ⟨Q2, hM2, h3⟩ := h2 z Y hq
  refine l_m hA dl_589 ?_
  refine l_arg hA 1 (by omega) (by omega) dl_590 dl_591 dl_592 dl_593 dl_594 ?_
  refine l_arg hA 2 (by omega) (by omega) dl_595 dl_596 dl_597 dl_598 dl_599 ?_
  refine l_call hA (k := 72) (f := M_Mo_save) (tbm 964 (by decide +kernel) rfl) okM_Mo_save (id := 43) (as' := [.inl (xs (i + 1)).toInt, .inl (xs (i + 2)).toInt]) (r := pres M_Tf_save.2.2.2.1 z []) hM2 rfl dl_600 rfl (fun z' Z hq' => ?_)
  obtain ⟨ez, hJ'⟩ := h3 z' Z hq'
  subst ez
  exact l_eq hA (z := z') dl_603 (by decide) (NX Z hJ')
theorem lc_cull (hA : LA w p s m meth c b L xs) (hi : i + 6 ≤ L) (hJ : J X) (NX : ∀ Z : XS, J Z → LGo w p e s m below meth c b i 1295 [] Z) : LGo w p e s m below meth c b i 608 [] X := by
  refine l_x hA dl_608 ?_
  refine l_arg hA 1 (by omega) (by omega) dl_609 dl_610 dl_611 dl_612 dl_613 ?_
  obtain ⟨Q1, hM1, h2⟩ := p_cull w (xs (i + 1)).toInt X hJ
  refine l_call hA (k := 73) (f := M_Tf_cull) (tbm 532 (by decide +kernel) rfl) okM_Tf_cull (id := 1) (as' := [.inl (xs (i + 1)).toInt]) (r := []) hM1 rfl dl_614 rfl (fun z Y hq => ?_)
  obtain ⟨Q2, hM2, h3⟩ := h2 z Y hq
  refine l_m hA dl_617 ?_
  refine l_arg hA 1 (by omega) (by omega) dl_618 dl_619 dl_620 dl_621 dl_622 ?_
  refine l_call hA (k := 76) (f := M_Mo_cull) (tbm 968 (by decide +kernel) rfl) okM_Mo_cull (id := 43) (as' := [.inl (xs (i + 1)).toInt]) (r := pres M_Tf_cull.2.2.2.1 z []) hM2 rfl dl_623 rfl (fun z' Z hq' => ?_)
  obtain ⟨ez, hJ'⟩ := h3 z' Z hq'
  subst ez
  exact l_eq hA (z := z') dl_626 (by decide) (NX Z hJ')
theorem lc_sow (hA : LA w p s m meth c b L xs) (hi : i + 6 ≤ L) (hJ : J X) (NX : ∀ Z : XS, J Z → LGo w p e s m below meth c b i 1295 [] Z) : LGo w p e s m below meth c b i 631 [] X := by
  refine l_x hA dl_631 ?_
  refine l_arg hA 1 (by omega) (by omega) dl_632 dl_633 dl_634 dl_635 dl_636 ?_
  obtain ⟨Q1, hM1, h2⟩ := p_sow w (xs (i + 1)).toInt X hJ
  refine l_call hA (k := 77) (f := M_Tf_sow) (tbm 540 (by decide +kernel) rfl) okM_Tf_sow (id := 1) (as' := [.inl (xs (i + 1)).toInt]) (r := []) hM1 rfl dl_637 rfl (fun z Y hq => ?_)
  obtain ⟨Q2, hM2, h3⟩ := h2 z Y hq
  refine l_m hA dl_640 ?_
  refine l_arg hA 1 (by omega) (by omega) dl_641 dl_642 dl_643 dl_644 dl_645 ?_
  refine l_call hA (k := 80) (f := M_Mo_sow) (tbm 972 (by decide +kernel) rfl) okM_Mo_sow (id := 43) (as' := [.inl (xs (i + 1)).toInt]) (r := pres M_Tf_sow.2.2.2.1 z []) hM2 rfl dl_646 rfl (fun z' Z hq' => ?_)
  obtain ⟨ez, hJ'⟩ := h3 z' Z hq'
  subst ez
  exact l_eq hA (z := z') dl_649 (by decide) (NX Z hJ')
theorem lc_worth (hA : LA w p s m meth c b L xs) (hi : i + 6 ≤ L) (hJ : J X) (NX : ∀ Z : XS, J Z → LGo w p e s m below meth c b i 1295 [] Z) : LGo w p e s m below meth c b i 654 [] X := by
  refine l_x hA dl_654 ?_
  refine l_arg hA 1 (by omega) (by omega) dl_655 dl_656 dl_657 dl_658 dl_659 ?_
  obtain ⟨Q1, hM1, h2⟩ := p_worth w (xs (i + 1)).toInt X hJ
  refine l_call hA (k := 81) (f := M_Tf_worth) (tbm 553 (by decide +kernel) rfl) okM_Tf_worth (id := 1) (as' := [.inl (xs (i + 1)).toInt]) (r := []) hM1 rfl dl_660 rfl (fun z Y hq => ?_)
  obtain ⟨Q2, hM2, h3⟩ := h2 z Y hq
  refine l_m hA dl_663 ?_
  refine l_arg hA 1 (by omega) (by omega) dl_664 dl_665 dl_666 dl_667 dl_668 ?_
  refine l_call hA (k := 84) (f := M_Mo_worth) (tbm 976 (by decide +kernel) rfl) okM_Mo_worth (id := 43) (as' := [.inl (xs (i + 1)).toInt]) (r := pres M_Tf_worth.2.2.2.1 z []) hM2 rfl dl_669 rfl (fun z' Z hq' => ?_)
  obtain ⟨ez, hJ'⟩ := h3 z' Z hq'
  subst ez
  exact l_eq hA (z := z') dl_672 (by decide) (NX Z hJ')
theorem lc_game (hA : LA w p s m meth c b L xs) (hi : i + 6 ≤ L) (hJ : J X) (NX : ∀ Z : XS, J Z → LGo w p e s m below meth c b i 1295 [] Z) : LGo w p e s m below meth c b i 677 [] X := by
  refine l_x hA dl_677 ?_
  refine l_arg hA 1 (by omega) (by omega) dl_678 dl_679 dl_680 dl_681 dl_682 ?_
  obtain ⟨Q1, hM1, h2⟩ := p_game w (xs (i + 1)).toInt X hJ
  refine l_call hA (k := 85) (f := M_Tf_game) (tbm 557 (by decide +kernel) rfl) okM_Tf_game (id := 1) (as' := [.inl (xs (i + 1)).toInt]) (r := []) hM1 rfl dl_683 rfl (fun z Y hq => ?_)
  obtain ⟨Q2, hM2, h3⟩ := h2 z Y hq
  refine l_m hA dl_686 ?_
  refine l_arg hA 1 (by omega) (by omega) dl_687 dl_688 dl_689 dl_690 dl_691 ?_
  refine l_call hA (k := 88) (f := M_Mo_game) (tbm 980 (by decide +kernel) rfl) okM_Mo_game (id := 43) (as' := [.inl (xs (i + 1)).toInt]) (r := pres M_Tf_game.2.2.2.1 z []) hM2 rfl dl_692 rfl (fun z' Z hq' => ?_)
  obtain ⟨ez, hJ'⟩ := h3 z' Z hq'
  subst ez
  exact l_eq hA (z := z') dl_695 (by decide) (NX Z hJ')
theorem lc_reading (hA : LA w p s m meth c b L xs) (hi : i + 6 ≤ L) (hJ : J X) (NX : ∀ Z : XS, J Z → LGo w p e s m below meth c b i 1295 [] Z) : LGo w p e s m below meth c b i 700 [] X := by
  refine l_x hA dl_700 ?_
  refine l_arg hA 1 (by omega) (by omega) dl_701 dl_702 dl_703 dl_704 dl_705 ?_
  refine l_arg hA 2 (by omega) (by omega) dl_706 dl_707 dl_708 dl_709 dl_710 ?_
  refine l_arg hA 3 (by omega) (by omega) dl_711 dl_712 dl_713 dl_714 dl_715 ?_
  refine l_nz hA dl_716 dl_719 dl_720 dl_723 ?_
  obtain ⟨Q1, hM1, h2⟩ := p_reading w (xs (i + 1)).toInt (xs (i + 2)).toInt (if (xs (i + 3)).toInt = 0 then 0 else 1) (by split <;> simp) X hJ
  refine l_call hA (k := 89) (f := M_Tf_reading) (tbm 566 (by decide +kernel) rfl) okM_Tf_reading (id := 1) (as' := [.inl (xs (i + 1)).toInt, .inl (xs (i + 2)).toInt, .inl (if (xs (i + 3)).toInt = 0 then 0 else 1)]) (r := []) hM1 rfl dl_724 rfl (fun z Y hq => ?_)
  obtain ⟨Q2, hM2, h3⟩ := h2 z Y hq
  refine l_m hA dl_727 ?_
  refine l_arg hA 1 (by omega) (by omega) dl_728 dl_729 dl_730 dl_731 dl_732 ?_
  refine l_arg hA 2 (by omega) (by omega) dl_733 dl_734 dl_735 dl_736 dl_737 ?_
  refine l_arg hA 3 (by omega) (by omega) dl_738 dl_739 dl_740 dl_741 dl_742 ?_
  refine l_nz hA dl_743 dl_746 dl_747 dl_750 ?_
  refine l_call hA (k := 93) (f := M_Mo_reading) (tbm 988 (by decide +kernel) rfl) okM_Mo_reading (id := 43) (as' := [.inl (xs (i + 1)).toInt, .inl (xs (i + 2)).toInt, .inl (if (xs (i + 3)).toInt = 0 then 0 else 1)]) (r := pres M_Tf_reading.2.2.2.1 z []) hM2 rfl dl_751 rfl (fun z' Z hq' => ?_)
  obtain ⟨ez, hJ'⟩ := h3 z' Z hq'
  subst ez
  exact l_eq hA (z := z') dl_754 (by decide) (NX Z hJ')
theorem lc_back (hA : LA w p s m meth c b L xs) (hi : i + 6 ≤ L) (hJ : J X) (NX : ∀ Z : XS, J Z → LGo w p e s m below meth c b i 1295 [] Z) : LGo w p e s m below meth c b i 759 [] X := by
  refine l_x hA dl_759 ?_
  refine l_arg hA 1 (by omega) (by omega) dl_760 dl_761 dl_762 dl_763 dl_764 ?_
  obtain ⟨Q1, hM1, h2⟩ := p_back w (xs (i + 1)).toInt X hJ
  refine l_call hA (k := 94) (f := M_Tf_back) (tbm 574 (by decide +kernel) rfl) okM_Tf_back (id := 1) (as' := [.inl (xs (i + 1)).toInt]) (r := []) hM1 rfl dl_765 rfl (fun z Y hq => ?_)
  obtain ⟨Q2, hM2, h3⟩ := h2 z Y hq
  refine l_m hA dl_768 ?_
  refine l_arg hA 1 (by omega) (by omega) dl_769 dl_770 dl_771 dl_772 dl_773 ?_
  refine l_call hA (k := 97) (f := M_Mo_back) (tbm 992 (by decide +kernel) rfl) okM_Mo_back (id := 43) (as' := [.inl (xs (i + 1)).toInt]) (r := pres M_Tf_back.2.2.2.1 z []) hM2 rfl dl_774 rfl (fun z' Z hq' => ?_)
  obtain ⟨ez, hJ'⟩ := h3 z' Z hq'
  subst ez
  exact l_eq hA (z := z') dl_777 (by decide) (NX Z hJ')
theorem lc_whence (hA : LA w p s m meth c b L xs) (hi : i + 6 ≤ L) (hJ : J X) (NX : ∀ Z : XS, J Z → LGo w p e s m below meth c b i 1295 [] Z) : LGo w p e s m below meth c b i 782 [] X := by
  refine l_x hA dl_782 ?_
  refine l_arg hA 1 (by omega) (by omega) dl_783 dl_784 dl_785 dl_786 dl_787 ?_
  obtain ⟨Q1, hM1, h2⟩ := p_whence w (xs (i + 1)).toInt X hJ
  refine l_call hA (k := 98) (f := M_Tf_whence) (tbm 578 (by decide +kernel) rfl) okM_Tf_whence (id := 1) (as' := [.inl (xs (i + 1)).toInt]) (r := []) hM1 rfl dl_788 rfl (fun z Y hq => ?_)
  obtain ⟨Q2, hM2, h3⟩ := h2 z Y hq
  refine l_m hA dl_791 ?_
  refine l_arg hA 1 (by omega) (by omega) dl_792 dl_793 dl_794 dl_795 dl_796 ?_
  refine l_call hA (k := 101) (f := M_Mo_whence) (tbm 996 (by decide +kernel) rfl) okM_Mo_whence (id := 43) (as' := [.inl (xs (i + 1)).toInt]) (r := pres M_Tf_whence.2.2.2.1 z []) hM2 rfl dl_797 rfl (fun z' Z hq' => ?_)
  obtain ⟨ez, hJ'⟩ := h3 z' Z hq'
  subst ez
  exact l_eq hA (z := z') dl_800 (by decide) (NX Z hJ')
theorem lc_laws (hA : LA w p s m meth c b L xs) (hi : i + 6 ≤ L) (hJ : J X) (NX : ∀ Z : XS, J Z → LGo w p e s m below meth c b i 1295 [] Z) : LGo w p e s m below meth c b i 805 [] X := by
  refine l_x hA dl_805 ?_
  obtain ⟨Q1, hM1, h2⟩ := p_laws w X hJ
  refine l_call hA (k := 102) (f := M_Tf_laws) (tbm 586 (by decide +kernel) rfl) okM_Tf_laws (id := 1) (as' := []) (r := []) hM1 rfl dl_806 rfl (fun z Y hq => ?_)
  obtain ⟨Q2, hM2, h3⟩ := h2 z Y hq
  refine l_m hA dl_809 ?_
  refine l_call hA (k := 105) (f := M_Mo_laws) (tbm 1004 (by decide +kernel) rfl) okM_Mo_laws (id := 43) (as' := []) (r := pres M_Tf_laws.2.2.2.1 z []) hM2 rfl dl_810 rfl (fun z' Z hq' => ?_)
  obtain ⟨ez, hJ'⟩ := h3 z' Z hq'
  subst ez
  exact l_eq hA (z := z') dl_813 (by decide) (NX Z hJ')
theorem lc_kinds (hA : LA w p s m meth c b L xs) (hi : i + 6 ≤ L) (hJ : J X) (NX : ∀ Z : XS, J Z → LGo w p e s m below meth c b i 1295 [] Z) : LGo w p e s m below meth c b i 818 [] X := by
  refine l_x hA dl_818 ?_
  refine l_arg hA 1 (by omega) (by omega) dl_819 dl_820 dl_821 dl_822 dl_823 ?_
  obtain ⟨Q1, hM1, h2⟩ := p_kinds w (xs (i + 1)).toInt X hJ
  refine l_call hA (k := 106) (f := M_Tf_kinds) (tbm 590 (by decide +kernel) rfl) okM_Tf_kinds (id := 1) (as' := [.inl (xs (i + 1)).toInt]) (r := []) hM1 rfl dl_824 rfl (fun z Y hq => ?_)
  obtain ⟨Q2, hM2, h3⟩ := h2 z Y hq
  refine l_m hA dl_827 ?_
  refine l_arg hA 1 (by omega) (by omega) dl_828 dl_829 dl_830 dl_831 dl_832 ?_
  refine l_call hA (k := 109) (f := M_Mo_kinds) (tbm 1008 (by decide +kernel) rfl) okM_Mo_kinds (id := 43) (as' := [.inl (xs (i + 1)).toInt]) (r := pres M_Tf_kinds.2.2.2.1 z []) hM2 rfl dl_833 rfl (fun z' Z hq' => ?_)
  obtain ⟨ez, hJ'⟩ := h3 z' Z hq'
  subst ez
  exact l_eq hA (z := z') dl_836 (by decide) (NX Z hJ')
theorem lc_odds (hA : LA w p s m meth c b L xs) (hi : i + 6 ≤ L) (hJ : J X) (NX : ∀ Z : XS, J Z → LGo w p e s m below meth c b i 1295 [] Z) : LGo w p e s m below meth c b i 841 [] X := by
  refine l_x hA dl_841 ?_
  refine l_arg hA 1 (by omega) (by omega) dl_842 dl_843 dl_844 dl_845 dl_846 ?_
  refine l_arg hA 2 (by omega) (by omega) dl_847 dl_848 dl_849 dl_850 dl_851 ?_
  obtain ⟨Q1, hM1, h2⟩ := p_odds w (xs (i + 1)).toInt (xs (i + 2)).toInt X hJ
  refine l_call hA (k := 110) (f := M_Tf_odds) (tbm 594 (by decide +kernel) rfl) okM_Tf_odds (id := 1) (as' := [.inl (xs (i + 1)).toInt, .inl (xs (i + 2)).toInt]) (r := []) hM1 rfl dl_852 rfl (fun z Y hq => ?_)
  obtain ⟨Q2, hM2, h3⟩ := h2 z Y hq
  refine l_m hA dl_855 ?_
  refine l_arg hA 1 (by omega) (by omega) dl_856 dl_857 dl_858 dl_859 dl_860 ?_
  refine l_arg hA 2 (by omega) (by omega) dl_861 dl_862 dl_863 dl_864 dl_865 ?_
  refine l_call hA (k := 114) (f := M_Mo_odds) (tbm 1012 (by decide +kernel) rfl) okM_Mo_odds (id := 43) (as' := [.inl (xs (i + 1)).toInt, .inl (xs (i + 2)).toInt]) (r := pres M_Tf_odds.2.2.2.1 z []) hM2 rfl dl_866 rfl (fun z' Z hq' => ?_)
  obtain ⟨ez, hJ'⟩ := h3 z' Z hq'
  subst ez
  exact l_leq hA (z := z') dl_869 dl_870 (by decide) (NX Z hJ')
theorem lc_coin (hA : LA w p s m meth c b L xs) (hi : i + 6 ≤ L) (hJ : J X) (NX : ∀ Z : XS, J Z → LGo w p e s m below meth c b i 1295 [] Z) : LGo w p e s m below meth c b i 875 [] X := by
  refine l_x hA dl_875 ?_
  refine l_arg hA 1 (by omega) (by omega) dl_876 dl_877 dl_878 dl_879 dl_880 ?_
  obtain ⟨Q1, hM1, h2⟩ := p_coin w (xs (i + 1)).toInt X hJ
  refine l_call hA (k := 115) (f := M_Tf_coin) (tbm 603 (by decide +kernel) rfl) okM_Tf_coin (id := 1) (as' := [.inl (xs (i + 1)).toInt]) (r := []) hM1 rfl dl_881 rfl (fun z Y hq => ?_)
  obtain ⟨Q2, hM2, h3⟩ := h2 z Y hq
  refine l_m hA dl_884 ?_
  refine l_arg hA 1 (by omega) (by omega) dl_885 dl_886 dl_887 dl_888 dl_889 ?_
  refine l_call hA (k := 118) (f := M_Mo_coin) (tbm 1020 (by decide +kernel) rfl) okM_Mo_coin (id := 43) (as' := [.inl (xs (i + 1)).toInt]) (r := pres M_Tf_coin.2.2.2.1 z []) hM2 rfl dl_890 rfl (fun z' Z hq' => ?_)
  obtain ⟨ez, hJ'⟩ := h3 z' Z hq'
  subst ez
  exact l_eq hA (z := z') dl_893 (by decide) (NX Z hJ')
theorem lc_row (hA : LA w p s m meth c b L xs) (hi : i + 6 ≤ L) (hJ : J X) (NX : ∀ Z : XS, J Z → LGo w p e s m below meth c b i 1295 [] Z) : LGo w p e s m below meth c b i 898 [] X := by
  refine l_x hA dl_898 ?_
  refine l_arg hA 1 (by omega) (by omega) dl_899 dl_900 dl_901 dl_902 dl_903 ?_
  refine l_arg hA 2 (by omega) (by omega) dl_904 dl_905 dl_906 dl_907 dl_908 ?_
  refine l_arg hA 3 (by omega) (by omega) dl_909 dl_910 dl_911 dl_912 dl_913 ?_
  refine l_arg hA 4 (by omega) (by omega) dl_914 dl_915 dl_916 dl_917 dl_918 ?_
  obtain ⟨Q1, hM1, h2⟩ := p_row w (xs (i + 1)).toInt (xs (i + 2)).toInt (xs (i + 3)).toInt (xs (i + 4)).toInt X hJ
  refine l_call hA (k := 119) (f := M_Tf_row) (tbm 607 (by decide +kernel) rfl) okM_Tf_row (id := 1) (as' := [.inl (xs (i + 1)).toInt, .inl (xs (i + 2)).toInt, .inl (xs (i + 3)).toInt, .inl (xs (i + 4)).toInt]) (r := []) hM1 rfl dl_919 rfl (fun z Y hq => ?_)
  obtain ⟨Q2, hM2, h3⟩ := h2 z Y hq
  refine l_m hA dl_922 ?_
  refine l_arg hA 1 (by omega) (by omega) dl_923 dl_924 dl_925 dl_926 dl_927 ?_
  refine l_arg hA 2 (by omega) (by omega) dl_928 dl_929 dl_930 dl_931 dl_932 ?_
  refine l_arg hA 3 (by omega) (by omega) dl_933 dl_934 dl_935 dl_936 dl_937 ?_
  refine l_arg hA 4 (by omega) (by omega) dl_938 dl_939 dl_940 dl_941 dl_942 ?_
  refine l_call hA (k := 122) (f := M_Mo_row) (tbm 1024 (by decide +kernel) rfl) okM_Mo_row (id := 43) (as' := [.inl (xs (i + 1)).toInt, .inl (xs (i + 2)).toInt, .inl (xs (i + 3)).toInt, .inl (xs (i + 4)).toInt]) (r := pres M_Tf_row.2.2.2.1 z []) hM2 rfl dl_943 rfl (fun z' Z hq' => ?_)
  obtain ⟨ez, hJ'⟩ := h3 z' Z hq'
  subst ez
  exact l_eq hA (z := z') dl_946 (by decide) (NX Z hJ')
theorem lc_sheet (hA : LA w p s m meth c b L xs) (hi : i + 6 ≤ L) (hJ : J X) (NX : ∀ Z : XS, J Z → LGo w p e s m below meth c b i 1295 [] Z) : LGo w p e s m below meth c b i 951 [] X := by
  refine l_x hA dl_951 ?_
  refine l_arg hA 1 (by omega) (by omega) dl_952 dl_953 dl_954 dl_955 dl_956 ?_
  refine l_arg hA 2 (by omega) (by omega) dl_957 dl_958 dl_959 dl_960 dl_961 ?_
  refine l_arg hA 3 (by omega) (by omega) dl_962 dl_963 dl_964 dl_965 dl_966 ?_
  obtain ⟨Q1, hM1, h2⟩ := p_sheet w (xs (i + 1)).toInt (xs (i + 2)).toInt (xs (i + 3)).toInt X hJ
  refine l_call hA (k := 123) (f := M_Tf_sheet) (tbm 612 (by decide +kernel) rfl) okM_Tf_sheet (id := 1) (as' := [.inl (xs (i + 1)).toInt, .inl (xs (i + 2)).toInt, .inl (xs (i + 3)).toInt]) (r := []) hM1 rfl dl_967 rfl (fun z Y hq => ?_)
  obtain ⟨Q2, hM2, h3⟩ := h2 z Y hq
  refine l_m hA dl_970 ?_
  refine l_arg hA 1 (by omega) (by omega) dl_971 dl_972 dl_973 dl_974 dl_975 ?_
  refine l_arg hA 2 (by omega) (by omega) dl_976 dl_977 dl_978 dl_979 dl_980 ?_
  refine l_arg hA 3 (by omega) (by omega) dl_981 dl_982 dl_983 dl_984 dl_985 ?_
  refine l_call hA (k := 127) (f := M_Mo_sheet) (tbm 1032 (by decide +kernel) rfl) okM_Mo_sheet (id := 43) (as' := [.inl (xs (i + 1)).toInt, .inl (xs (i + 2)).toInt, .inl (xs (i + 3)).toInt]) (r := pres M_Tf_sheet.2.2.2.1 z []) hM2 rfl dl_986 rfl (fun z' Z hq' => ?_)
  obtain ⟨ez, hJ'⟩ := h3 z' Z hq'
  subst ez
  exact l_eq hA (z := z') dl_989 (by decide) (NX Z hJ')
theorem lc_lose (hA : LA w p s m meth c b L xs) (hi : i + 6 ≤ L) (hJ : J X) (NX : ∀ Z : XS, J Z → LGo w p e s m below meth c b i 1295 [] Z) : LGo w p e s m below meth c b i 994 [] X := by
  refine l_x hA dl_994 ?_
  refine l_arg hA 1 (by omega) (by omega) dl_995 dl_996 dl_997 dl_998 dl_999 ?_
  obtain ⟨Q1, hM1, h2⟩ := p_lose w (xs (i + 1)).toInt X hJ
  refine l_call hA (k := 128) (f := M_Tf_lose) (tbm 622 (by decide +kernel) rfl) okM_Tf_lose (id := 1) (as' := [.inl (xs (i + 1)).toInt]) (r := []) hM1 rfl dl_1000 rfl (fun z Y hq => ?_)
  obtain ⟨Q2, hM2, h3⟩ := h2 z Y hq
  refine l_m hA dl_1003 ?_
  refine l_arg hA 1 (by omega) (by omega) dl_1004 dl_1005 dl_1006 dl_1007 dl_1008 ?_
  refine l_call hA (k := 131) (f := M_Mo_lose) (tbm 1036 (by decide +kernel) rfl) okM_Mo_lose (id := 43) (as' := [.inl (xs (i + 1)).toInt]) (r := pres M_Tf_lose.2.2.2.1 z []) hM2 rfl dl_1009 rfl (fun z' Z hq' => ?_)
  obtain ⟨ez, hJ'⟩ := h3 z' Z hq'
  subst ez
  exact l_eq hA (z := z') dl_1012 (by decide) (NX Z hJ')
theorem lc_put (hA : LA w p s m meth c b L xs) (hi : i + 6 ≤ L) (hJ : J X) (NX : ∀ Z : XS, J Z → LGo w p e s m below meth c b i 1295 [] Z) : LGo w p e s m below meth c b i 1017 [] X := by
  refine l_x hA dl_1017 ?_
  refine l_arg hA 1 (by omega) (by omega) dl_1018 dl_1019 dl_1020 dl_1021 dl_1022 ?_
  refine l_arg hA 2 (by omega) (by omega) dl_1023 dl_1024 dl_1025 dl_1026 dl_1027 ?_
  refine l_arg hA 3 (by omega) (by omega) dl_1028 dl_1029 dl_1030 dl_1031 dl_1032 ?_
  obtain ⟨Q1, hM1, h2⟩ := p_put w (xs (i + 1)).toInt (xs (i + 2)).toInt (xs (i + 3)).toInt X hJ
  refine l_call hA (k := 132) (f := M_Tf_put) (tbm 626 (by decide +kernel) rfl) okM_Tf_put (id := 1) (as' := [.inl (xs (i + 1)).toInt, .inl (xs (i + 2)).toInt, .inl (xs (i + 3)).toInt]) (r := []) hM1 rfl dl_1033 rfl (fun z Y hq => ?_)
  obtain ⟨Q2, hM2, h3⟩ := h2 z Y hq
  refine l_m hA dl_1036 ?_
  refine l_arg hA 1 (by omega) (by omega) dl_1037 dl_1038 dl_1039 dl_1040 dl_1041 ?_
  refine l_arg hA 2 (by omega) (by omega) dl_1042 dl_1043 dl_1044 dl_1045 dl_1046 ?_
  refine l_arg hA 3 (by omega) (by omega) dl_1047 dl_1048 dl_1049 dl_1050 dl_1051 ?_
  refine l_call hA (k := 135) (f := M_Mo_put) (tbm 1040 (by decide +kernel) rfl) okM_Mo_put (id := 43) (as' := [.inl (xs (i + 1)).toInt, .inl (xs (i + 2)).toInt, .inl (xs (i + 3)).toInt]) (r := pres M_Tf_put.2.2.2.1 z []) hM2 rfl dl_1052 rfl (fun z' Z hq' => ?_)
  obtain ⟨ez, hJ'⟩ := h3 z' Z hq'
  subst ez
  exact l_eq hA (z := z') dl_1055 (by decide) (NX Z hJ')
theorem lc_cell (hA : LA w p s m meth c b L xs) (hi : i + 6 ≤ L) (hJ : J X) (NX : ∀ Z : XS, J Z → LGo w p e s m below meth c b i 1295 [] Z) : LGo w p e s m below meth c b i 1060 [] X := by
  refine l_x hA dl_1060 ?_
  refine l_arg hA 1 (by omega) (by omega) dl_1061 dl_1062 dl_1063 dl_1064 dl_1065 ?_
  refine l_arg hA 2 (by omega) (by omega) dl_1066 dl_1067 dl_1068 dl_1069 dl_1070 ?_
  refine l_arg hA 3 (by omega) (by omega) dl_1071 dl_1072 dl_1073 dl_1074 dl_1075 ?_
  obtain ⟨Q1, hM1, h2⟩ := p_cell w (xs (i + 1)).toInt (xs (i + 2)).toInt (xs (i + 3)).toInt X hJ
  refine l_call hA (k := 136) (f := M_Tf_cell) (tbm 634 (by decide +kernel) rfl) okM_Tf_cell (id := 1) (as' := [.inl (xs (i + 1)).toInt, .inl (xs (i + 2)).toInt, .inl (xs (i + 3)).toInt]) (r := []) hM1 rfl dl_1076 rfl (fun z Y hq => ?_)
  obtain ⟨Q2, hM2, h3⟩ := h2 z Y hq
  refine l_m hA dl_1079 ?_
  refine l_arg hA 1 (by omega) (by omega) dl_1080 dl_1081 dl_1082 dl_1083 dl_1084 ?_
  refine l_arg hA 2 (by omega) (by omega) dl_1085 dl_1086 dl_1087 dl_1088 dl_1089 ?_
  refine l_arg hA 3 (by omega) (by omega) dl_1090 dl_1091 dl_1092 dl_1093 dl_1094 ?_
  refine l_call hA (k := 140) (f := M_Mo_cell) (tbm 1044 (by decide +kernel) rfl) okM_Mo_cell (id := 43) (as' := [.inl (xs (i + 1)).toInt, .inl (xs (i + 2)).toInt, .inl (xs (i + 3)).toInt]) (r := pres M_Tf_cell.2.2.2.1 z []) hM2 rfl dl_1095 rfl (fun z' Z hq' => ?_)
  obtain ⟨ez, hJ'⟩ := h3 z' Z hq'
  subst ez
  exact l_leq hA (z := z') dl_1098 dl_1099 (by decide) (NX Z hJ')
theorem lc_copy (hA : LA w p s m meth c b L xs) (hi : i + 6 ≤ L) (hJ : J X) (NX : ∀ Z : XS, J Z → LGo w p e s m below meth c b i 1295 [] Z) : LGo w p e s m below meth c b i 1104 [] X := by
  refine l_x hA dl_1104 ?_
  refine l_arg hA 1 (by omega) (by omega) dl_1105 dl_1106 dl_1107 dl_1108 dl_1109 ?_
  refine l_arg hA 2 (by omega) (by omega) dl_1110 dl_1111 dl_1112 dl_1113 dl_1114 ?_
  refine l_arg hA 3 (by omega) (by omega) dl_1115 dl_1116 dl_1117 dl_1118 dl_1119 ?_
  refine l_arg hA 4 (by omega) (by omega) dl_1120 dl_1121 dl_1122 dl_1123 dl_1124 ?_
  refine l_arg hA 5 (by omega) (by omega) dl_1125 dl_1126 dl_1127 dl_1128 dl_1129 ?_
  obtain ⟨Q1, hM1, h2⟩ := p_copy w (xs (i + 1)).toInt (xs (i + 2)).toInt (xs (i + 3)).toInt (xs (i + 4)).toInt (xs (i + 5)).toInt X hJ
  refine l_call hA (k := 141) (f := M_Tf_copy) (tbm 638 (by decide +kernel) rfl) okM_Tf_copy (id := 1) (as' := [.inl (xs (i + 1)).toInt, .inl (xs (i + 2)).toInt, .inl (xs (i + 3)).toInt, .inl (xs (i + 4)).toInt, .inl (xs (i + 5)).toInt]) (r := []) hM1 rfl dl_1130 rfl (fun z Y hq => ?_)
  obtain ⟨Q2, hM2, h3⟩ := h2 z Y hq
  refine l_m hA dl_1133 ?_
  refine l_arg hA 1 (by omega) (by omega) dl_1134 dl_1135 dl_1136 dl_1137 dl_1138 ?_
  refine l_arg hA 2 (by omega) (by omega) dl_1139 dl_1140 dl_1141 dl_1142 dl_1143 ?_
  refine l_arg hA 3 (by omega) (by omega) dl_1144 dl_1145 dl_1146 dl_1147 dl_1148 ?_
  refine l_arg hA 4 (by omega) (by omega) dl_1149 dl_1150 dl_1151 dl_1152 dl_1153 ?_
  refine l_arg hA 5 (by omega) (by omega) dl_1154 dl_1155 dl_1156 dl_1157 dl_1158 ?_
  refine l_call hA (k := 145) (f := M_Mo_copy) (tbm 1052 (by decide +kernel) rfl) okM_Mo_copy (id := 43) (as' := [.inl (xs (i + 1)).toInt, .inl (xs (i + 2)).toInt, .inl (xs (i + 3)).toInt, .inl (xs (i + 4)).toInt, .inl (xs (i + 5)).toInt]) (r := pres M_Tf_copy.2.2.2.1 z []) hM2 rfl dl_1159 rfl (fun z' Z hq' => ?_)
  obtain ⟨ez, hJ'⟩ := h3 z' Z hq'
  subst ez
  exact l_eq hA (z := z') dl_1162 (by decide) (NX Z hJ')
theorem lc_tell (hA : LA w p s m meth c b L xs) (hi : i + 6 ≤ L) (hJ : J X) (NX : ∀ Z : XS, J Z → LGo w p e s m below meth c b i 1295 [] Z) : LGo w p e s m below meth c b i 1167 [] X := by
  refine l_x hA dl_1167 ?_
  refine l_arg hA 1 (by omega) (by omega) dl_1168 dl_1169 dl_1170 dl_1171 dl_1172 ?_
  obtain ⟨Q1, hM1, h2⟩ := p_tell w (xs (i + 1)).toInt X hJ
  refine l_call hA (k := 146) (f := M_Tf_tell) (tbm 646 (by decide +kernel) rfl) okM_Tf_tell (id := 1) (as' := [.inl (xs (i + 1)).toInt]) (r := []) hM1 rfl dl_1173 rfl (fun z Y hq => ?_)
  obtain ⟨Q2, hM2, h3⟩ := h2 z Y hq
  refine l_m hA dl_1176 ?_
  refine l_arg hA 1 (by omega) (by omega) dl_1177 dl_1178 dl_1179 dl_1180 dl_1181 ?_
  refine l_call hA (k := 149) (f := M_Mo_tell) (tbm 1056 (by decide +kernel) rfl) okM_Mo_tell (id := 43) (as' := [.inl (xs (i + 1)).toInt]) (r := pres M_Tf_tell.2.2.2.1 z []) hM2 rfl dl_1182 rfl (fun z' Z hq' => ?_)
  obtain ⟨ez, hJ'⟩ := h3 z' Z hq'
  subst ez
  exact l_eq hA (z := z') dl_1185 (by decide) (NX Z hJ')
theorem lc_swear (hA : LA w p s m meth c b L xs) (hi : i + 6 ≤ L) (hJ : J X) (NX : ∀ Z : XS, J Z → LGo w p e s m below meth c b i 1295 [] Z) : LGo w p e s m below meth c b i 1190 [] X := by
  refine l_x hA dl_1190 ?_
  refine l_arg hA 1 (by omega) (by omega) dl_1191 dl_1192 dl_1193 dl_1194 dl_1195 ?_
  obtain ⟨Q1, hM1, h2⟩ := p_swear w (xs (i + 1)).toInt X hJ
  refine l_call hA (k := 150) (f := M_Tf_swear) (tbm 666 (by decide +kernel) rfl) okM_Tf_swear (id := 1) (as' := [.inl (xs (i + 1)).toInt]) (r := []) hM1 rfl dl_1196 rfl (fun z Y hq => ?_)
  obtain ⟨Q2, hM2, h3⟩ := h2 z Y hq
  refine l_m hA dl_1199 ?_
  refine l_arg hA 1 (by omega) (by omega) dl_1200 dl_1201 dl_1202 dl_1203 dl_1204 ?_
  refine l_call hA (k := 153) (f := M_Mo_swear) (tbm 1064 (by decide +kernel) rfl) okM_Mo_swear (id := 43) (as' := [.inl (xs (i + 1)).toInt]) (r := pres M_Tf_swear.2.2.2.1 z []) hM2 rfl dl_1205 rfl (fun z' Z hq' => ?_)
  obtain ⟨ez, hJ'⟩ := h3 z' Z hq'
  subst ez
  exact l_eq hA (z := z') dl_1208 (by decide) (NX Z hJ')
theorem lc_as (hA : LA w p s m meth c b L xs) (hi : i + 6 ≤ L) (hJ : J X) (NX : ∀ Z : XS, J Z → LGo w p e s m below meth c b i 1295 [] Z) : LGo w p e s m below meth c b i 1213 [] X := by
  refine l_x hA dl_1213 ?_
  refine l_arg hA 1 (by omega) (by omega) dl_1214 dl_1215 dl_1216 dl_1217 dl_1218 ?_
  refine l_arg hA 2 (by omega) (by omega) dl_1219 dl_1220 dl_1221 dl_1222 dl_1223 ?_
  obtain ⟨Q1, hM1, h2⟩ := p_as w (xs (i + 1)).toInt (xs (i + 2)).toInt X hJ
  refine l_call hA (k := 154) (f := M_Tf_as) (tbm 670 (by decide +kernel) rfl) okM_Tf_as (id := 1) (as' := [.inl (xs (i + 1)).toInt, .inl (xs (i + 2)).toInt]) (r := []) hM1 rfl dl_1224 rfl (fun z Y hq => ?_)
  obtain ⟨Q2, hM2, h3⟩ := h2 z Y hq
  refine l_m hA dl_1227 ?_
  refine l_arg hA 1 (by omega) (by omega) dl_1228 dl_1229 dl_1230 dl_1231 dl_1232 ?_
  refine l_arg hA 2 (by omega) (by omega) dl_1233 dl_1234 dl_1235 dl_1236 dl_1237 ?_
  refine l_call hA (k := 157) (f := M_Mo_as) (tbm 1068 (by decide +kernel) rfl) okM_Mo_as (id := 43) (as' := [.inl (xs (i + 1)).toInt, .inl (xs (i + 2)).toInt]) (r := pres M_Tf_as.2.2.2.1 z []) hM2 rfl dl_1238 rfl (fun z' Z hq' => ?_)
  obtain ⟨ez, hJ'⟩ := h3 z' Z hq'
  subst ez
  exact l_eq hA (z := z') dl_1241 (by decide) (NX Z hJ')
theorem lc_trace (hA : LA w p s m meth c b L xs) (hi : i + 6 ≤ L) (hJ : J X) (NX : ∀ Z : XS, J Z → LGo w p e s m below meth c b i 1295 [] Z) : LGo w p e s m below meth c b i 1246 [] X := by
  refine l_x hA dl_1246 ?_
  obtain ⟨Q1, hM1, h2⟩ := p_trace w X hJ
  refine l_call hA (k := 158) (f := M_Tf_trace) (tbm 674 (by decide +kernel) rfl) okM_Tf_trace (id := 1) (as' := []) (r := []) hM1 rfl dl_1247 rfl (fun z Y hq => ?_)
  obtain ⟨Q2, hM2, h3⟩ := h2 z Y hq
  refine l_m hA dl_1250 ?_
  refine l_call hA (k := 161) (f := M_Mo_trace) (tbm 1072 (by decide +kernel) rfl) okM_Mo_trace (id := 43) (as' := []) (r := pres M_Tf_trace.2.2.2.1 z []) hM2 rfl dl_1251 rfl (fun z' Z hq' => ?_)
  obtain ⟨ez, hJ'⟩ := h3 z' Z hq'
  subst ez
  exact l_eq hA (z := z') dl_1254 (by decide) (NX Z hJ')
theorem lc_fault (hA : LA w p s m meth c b L xs) (hi : i + 6 ≤ L) (hJ : J X) (NX : ∀ Z : XS, J Z → LGo w p e s m below meth c b i 1295 [] Z) : LGo w p e s m below meth c b i 1259 [] X := by
  refine l_x hA dl_1259 ?_
  obtain ⟨Q1, hM1, h2⟩ := p_fault w X hJ
  refine l_call hA (k := 162) (f := M_Tf_fault) (tbm 678 (by decide +kernel) rfl) okM_Tf_fault (id := 1) (as' := []) (r := []) hM1 rfl dl_1260 rfl (fun z Y hq => ?_)
  obtain ⟨Q2, hM2, h3⟩ := h2 z Y hq
  refine l_m hA dl_1263 ?_
  refine l_call hA (k := 165) (f := M_Mo_fault) (tbm 1076 (by decide +kernel) rfl) okM_Mo_fault (id := 43) (as' := []) (r := pres M_Tf_fault.2.2.2.1 z []) hM2 rfl dl_1264 rfl (fun z' Z hq' => ?_)
  obtain ⟨ez, hJ'⟩ := h3 z' Z hq'
  subst ez
  exact l_eq hA (z := z') dl_1267 (by decide) (NX Z hJ')
theorem lc_many (hA : LA w p s m meth c b L xs) (hi : i + 6 ≤ L) (hJ : J X) (NX : ∀ Z : XS, J Z → LGo w p e s m below meth c b i 1295 [] Z) : LGo w p e s m below meth c b i 1272 [] X := by
  refine l_x hA dl_1272 ?_
  refine l_arg hA 1 (by omega) (by omega) dl_1273 dl_1274 dl_1275 dl_1276 dl_1277 ?_
  obtain ⟨Q1, hM1, h2⟩ := p_many w (xs (i + 1)).toInt X hJ
  refine l_call hA (k := 166) (f := M_Tf_many) (tbm 682 (by decide +kernel) rfl) okM_Tf_many (id := 1) (as' := [.inl (xs (i + 1)).toInt]) (r := []) hM1 rfl dl_1278 rfl (fun z Y hq => ?_)
  obtain ⟨Q2, hM2, h3⟩ := h2 z Y hq
  refine l_m hA dl_1281 ?_
  refine l_arg hA 1 (by omega) (by omega) dl_1282 dl_1283 dl_1284 dl_1285 dl_1286 ?_
  refine l_call hA (k := 169) (f := M_Mo_many) (tbm 1080 (by decide +kernel) rfl) okM_Mo_many (id := 43) (as' := [.inl (xs (i + 1)).toInt]) (r := pres M_Tf_many.2.2.2.1 z []) hM2 rfl dl_1287 rfl (fun z' Z hq' => ?_)
  obtain ⟨ez, hJ'⟩ := h3 z' Z hq'
  subst ez
  exact l_eq hA (z := z') dl_1290 (by decide) (NX Z hJ')
end LCS
