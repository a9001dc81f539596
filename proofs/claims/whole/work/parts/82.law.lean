/-! THE LAW: its cases, and its loop -/
def lI (S : ZSt) (c : Ab) : Prop := CI S c ∧ MI S c ∧ CW c
section LC
variable {p : Program} {l : Launch} {e : Env} {s : State} {m : MethodId} {below : List Frame} {meth : Method} {c : Code} {D : va_G} {ad sa : Nat → Nat} {cA : Nat → ClassId} {b L : Nat} {xs : Nat → Int32} {Q : State → Prop} {S : ZSt} {i : Nat} {a : Ab}
theorem l_case_0 (C : lX p s m c D ad sa cA b L xs) (hi : i + 6 ≤ L) (hI : lI S a) (k : ∀ (S' : ZSt) (c' : Ab), lI S' c' → lJ p l e s m below meth c D ad cA b Q 1453 [] S' i) : lJ p l e s m below meth c D ad cA b Q 204 [] S i := by
  obtain ⟨r, c1, h1, h2, h3⟩ := pr_feed hI.2.2 (xs (i + 1))
  refine l_al1 C dL_law_204 ?_
  refine l_arg 1 C (by omega) rfl dL_law_205 dL_law_206 dL_law_207 dL_law_208 dL_law_209 ?_
  refine l_call (bb := 0) (ci := 6) (As := [.int (xs (i + 1))]) (rest := []) C dL_law_210 ml_L_13 cw_X6_feed iw_X6_feed ⟨by decide, rfl⟩ ⟨by decide, rfl⟩ rfl rfl (Nat.le_of_ble_eq_true rfl) (h1 11 S (Nat.le_refl _) hI.1) (fun S1 q1 => ?_)
  refine l_al2 C dL_law_213 ?_
  refine l_arg 1 C (by omega) rfl dL_law_214 dL_law_215 dL_law_216 dL_law_217 dL_law_218 ?_
  refine l_call (bb := 57) (ci := 7) (As := [.int (xs (i + 1))]) (rest := [.int r]) C dL_law_219 ml_L_17 cw_X7_feed iw_X7_feed ⟨by decide, rfl⟩ ⟨by decide, rfl⟩ rfl rfl (Nat.le_of_ble_eq_true rfl) (h2 11 S1 (Nat.le_refl _) (hI.2.1.c hI.2.2 q1.2)) (fun S2 q2 => ?_)
  exact l_eq C dL_law_222 (k S2 c1 ⟨q1.1.m q2.2, q2.1, h3⟩)
theorem l_case_1 (C : lX p s m c D ad sa cA b L xs) (hi : i + 6 ≤ L) (hI : lI S a) (k : ∀ (S' : ZSt) (c' : Ab), lI S' c' → lJ p l e s m below meth c D ad cA b Q 1453 [] S' i) : lJ p l e s m below meth c D ad cA b Q 227 [] S i := by
  obtain ⟨r, c1, h1, h2, h3⟩ := pr_end hI.2.2 (xs (i + 1))
  refine l_al1 C dL_law_227 ?_
  refine l_arg 1 C (by omega) rfl dL_law_228 dL_law_229 dL_law_230 dL_law_231 dL_law_232 ?_
  refine l_call (bb := 0) (ci := 6) (As := [.int (xs (i + 1))]) (rest := []) C dL_law_233 ml_L_18 cw_X6_end iw_X6_end ⟨by decide, rfl⟩ ⟨by decide, rfl⟩ rfl rfl (Nat.le_of_ble_eq_true rfl) (h1 11 S (Nat.le_refl _) hI.1) (fun S1 q1 => ?_)
  refine l_al2 C dL_law_236 ?_
  refine l_arg 1 C (by omega) rfl dL_law_237 dL_law_238 dL_law_239 dL_law_240 dL_law_241 ?_
  refine l_call (bb := 57) (ci := 7) (As := [.int (xs (i + 1))]) (rest := [.int r]) C dL_law_242 ml_L_21 cw_X7_end iw_X7_end ⟨by decide, rfl⟩ ⟨by decide, rfl⟩ rfl rfl (Nat.le_of_ble_eq_true rfl) (h2 11 S1 (Nat.le_refl _) (hI.2.1.c hI.2.2 q1.2)) (fun S2 q2 => ?_)
  exact l_eq C dL_law_245 (k S2 c1 ⟨q1.1.m q2.2, q2.1, h3⟩)
theorem l_case_2 (C : lX p s m c D ad sa cA b L xs) (hi : i + 6 ≤ L) (hI : lI S a) (k : ∀ (S' : ZSt) (c' : Ab), lI S' c' → lJ p l e s m below meth c D ad cA b Q 1453 [] S' i) : lJ p l e s m below meth c D ad cA b Q 250 [] S i := by
  obtain ⟨r, c1, h1, h2, h3⟩ := pr_text hI.2.2 
  refine l_al1 C dL_law_250 ?_
  refine l_call (bb := 0) (ci := 6) (As := []) (rest := []) C dL_law_251 ml_L_22 cw_X6_text iw_X6_text ⟨by decide, rfl⟩ ⟨by decide, rfl⟩ rfl rfl (Nat.le_of_ble_eq_true rfl) (h1 11 S (Nat.le_refl _) hI.1) (fun S1 q1 => ?_)
  refine l_al2 C dL_law_254 ?_
  refine l_call (bb := 57) (ci := 7) (As := []) (rest := [.int r]) C dL_law_255 ml_L_26 cw_X7_text iw_X7_text ⟨by decide, rfl⟩ ⟨by decide, rfl⟩ rfl rfl (Nat.le_of_ble_eq_true rfl) (h2 11 S1 (Nat.le_refl _) (hI.2.1.c hI.2.2 q1.2)) (fun S2 q2 => ?_)
  exact l_eq C dL_law_258 (k S2 c1 ⟨q1.1.m q2.2, q2.1, h3⟩)
theorem l_case_3 (C : lX p s m c D ad sa cA b L xs) (hi : i + 6 ≤ L) (hI : lI S a) (k : ∀ (S' : ZSt) (c' : Ab), lI S' c' → lJ p l e s m below meth c D ad cA b Q 1453 [] S' i) : lJ p l e s m below meth c D ad cA b Q 263 [] S i := by
  obtain ⟨r, c1, h1, h2, h3⟩ := pr_fault hI.2.2 
  refine l_al1 C dL_law_263 ?_
  refine l_call (bb := 0) (ci := 6) (As := []) (rest := []) C dL_law_264 ml_L_27 cw_X6_fault iw_X6_fault ⟨by decide, rfl⟩ ⟨by decide, rfl⟩ rfl rfl (Nat.le_of_ble_eq_true rfl) (h1 11 S (Nat.le_refl _) hI.1) (fun S1 q1 => ?_)
  refine l_al2 C dL_law_267 ?_
  refine l_call (bb := 57) (ci := 7) (As := []) (rest := [.int r]) C dL_law_268 ml_L_30 cw_X7_fault iw_X7_fault ⟨by decide, rfl⟩ ⟨by decide, rfl⟩ rfl rfl (Nat.le_of_ble_eq_true rfl) (h2 11 S1 (Nat.le_refl _) (hI.2.1.c hI.2.2 q1.2)) (fun S2 q2 => ?_)
  exact l_eq C dL_law_271 (k S2 c1 ⟨q1.1.m q2.2, q2.1, h3⟩)
theorem l_case_4 (C : lX p s m c D ad sa cA b L xs) (hi : i + 6 ≤ L) (hI : lI S a) (k : ∀ (S' : ZSt) (c' : Ab), lI S' c' → lJ p l e s m below meth c D ad cA b Q 1453 [] S' i) : lJ p l e s m below meth c D ad cA b Q 276 [] S i := by
  obtain ⟨r, c1, h1, h2, h3⟩ := Both.pr hI.2.2 (pub_rule hI.2.2.1 (xs (i + 1)))
  refine l_al1 C dL_law_276 ?_
  refine l_arg 1 C (by omega) rfl dL_law_277 dL_law_278 dL_law_279 dL_law_280 dL_law_281 ?_
  refine l_call (bb := 0) (ci := 6) (As := [.int (xs (i + 1))]) (rest := []) C dL_law_282 ml_L_31 cw_X6_rule iw_X6_rule ⟨by decide, rfl⟩ ⟨by decide, rfl⟩ rfl rfl (Nat.le_of_ble_eq_true rfl) (h1 11 S (Nat.le_refl _) hI.1) (fun S1 q1 => ?_)
  refine l_al2 C dL_law_285 ?_
  refine l_arg 1 C (by omega) rfl dL_law_286 dL_law_287 dL_law_288 dL_law_289 dL_law_290 ?_
  refine l_call (bb := 57) (ci := 7) (As := [.int (xs (i + 1))]) (rest := [.int r]) C dL_law_291 ml_L_34 cw_X7_rule iw_X7_rule ⟨by decide, rfl⟩ ⟨by decide, rfl⟩ rfl rfl (Nat.le_of_ble_eq_true rfl) (h2 11 S1 (Nat.le_refl _) (hI.2.1.c hI.2.2 q1.2)) (fun S2 q2 => ?_)
  exact l_eq C dL_law_294 (k S2 c1 ⟨q1.1.m q2.2, q2.1, h3⟩)
theorem l_case_5 (C : lX p s m c D ad sa cA b L xs) (hi : i + 6 ≤ L) (hI : lI S a) (k : ∀ (S' : ZSt) (c' : Ab), lI S' c' → lJ p l e s m below meth c D ad cA b Q 1453 [] S' i) : lJ p l e s m below meth c D ad cA b Q 299 [] S i := by
  obtain ⟨r, c1, h1, h2, h3⟩ := Both.pr hI.2.2 (pub_field hI.2.2.1 (xs (i + 1)) (xs (i + 2)))
  refine l_al1 C dL_law_299 ?_
  refine l_arg 1 C (by omega) rfl dL_law_300 dL_law_301 dL_law_302 dL_law_303 dL_law_304 ?_
  refine l_arg 2 C (by omega) rfl dL_law_305 dL_law_306 dL_law_307 dL_law_308 dL_law_309 ?_
  refine l_call (bb := 0) (ci := 6) (As := [.int (xs (i + 1)), .int (xs (i + 2))]) (rest := []) C dL_law_310 ml_L_35 cw_X6_field iw_X6_field ⟨by decide, rfl⟩ ⟨by decide, rfl⟩ rfl rfl (Nat.le_of_ble_eq_true rfl) (h1 11 S (Nat.le_refl _) hI.1) (fun S1 q1 => ?_)
  refine l_al2 C dL_law_313 ?_
  refine l_arg 1 C (by omega) rfl dL_law_314 dL_law_315 dL_law_316 dL_law_317 dL_law_318 ?_
  refine l_arg 2 C (by omega) rfl dL_law_319 dL_law_320 dL_law_321 dL_law_322 dL_law_323 ?_
  refine l_call (bb := 57) (ci := 7) (As := [.int (xs (i + 1)), .int (xs (i + 2))]) (rest := [.int r]) C dL_law_324 ml_L_39 cw_X7_field iw_X7_field ⟨by decide, rfl⟩ ⟨by decide, rfl⟩ rfl rfl (Nat.le_of_ble_eq_true rfl) (h2 11 S1 (Nat.le_refl _) (hI.2.1.c hI.2.2 q1.2)) (fun S2 q2 => ?_)
  exact l_eq C dL_law_327 (k S2 c1 ⟨q1.1.m q2.2, q2.1, h3⟩)
theorem l_case_6 (C : lX p s m c D ad sa cA b L xs) (hi : i + 6 ≤ L) (hI : lI S a) (k : ∀ (S' : ZSt) (c' : Ab), lI S' c' → lJ p l e s m below meth c D ad cA b Q 1453 [] S' i) : lJ p l e s m below meth c D ad cA b Q 332 [] S i := by
  obtain ⟨r, c1, h1, h2, h3⟩ := Both.pr hI.2.2 (pub_band hI.2.2.1 (xs (i + 1)) (xs (i + 2)))
  refine l_al1 C dL_law_332 ?_
  refine l_arg 1 C (by omega) rfl dL_law_333 dL_law_334 dL_law_335 dL_law_336 dL_law_337 ?_
  refine l_arg 2 C (by omega) rfl dL_law_338 dL_law_339 dL_law_340 dL_law_341 dL_law_342 ?_
  refine l_call (bb := 0) (ci := 6) (As := [.int (xs (i + 1)), .int (xs (i + 2))]) (rest := []) C dL_law_343 ml_L_40 cw_X6_band iw_X6_band ⟨by decide, rfl⟩ ⟨by decide, rfl⟩ rfl rfl (Nat.le_of_ble_eq_true rfl) (h1 11 S (Nat.le_refl _) hI.1) (fun S1 q1 => ?_)
  refine l_al2 C dL_law_346 ?_
  refine l_arg 1 C (by omega) rfl dL_law_347 dL_law_348 dL_law_349 dL_law_350 dL_law_351 ?_
  refine l_arg 2 C (by omega) rfl dL_law_352 dL_law_353 dL_law_354 dL_law_355 dL_law_356 ?_
  refine l_call (bb := 57) (ci := 7) (As := [.int (xs (i + 1)), .int (xs (i + 2))]) (rest := [.int r]) C dL_law_357 ml_L_43 cw_X7_band iw_X7_band ⟨by decide, rfl⟩ ⟨by decide, rfl⟩ rfl rfl (Nat.le_of_ble_eq_true rfl) (h2 11 S1 (Nat.le_refl _) (hI.2.1.c hI.2.2 q1.2)) (fun S2 q2 => ?_)
  exact l_eq C dL_law_360 (k S2 c1 ⟨q1.1.m q2.2, q2.1, h3⟩)
theorem l_case_7 (C : lX p s m c D ad sa cA b L xs) (hi : i + 6 ≤ L) (hI : lI S a) (k : ∀ (S' : ZSt) (c' : Ab), lI S' c' → lJ p l e s m below meth c D ad cA b Q 1453 [] S' i) : lJ p l e s m below meth c D ad cA b Q 365 [] S i := by
  obtain ⟨r, c1, h1, h2, h3⟩ := Both.pr hI.2.2 (pub_alter hI.2.2.1 (xs (i + 1)) (xs (i + 2)) (xs (i + 3)))
  refine l_al1 C dL_law_365 ?_
  refine l_arg 1 C (by omega) rfl dL_law_366 dL_law_367 dL_law_368 dL_law_369 dL_law_370 ?_
  refine l_arg 2 C (by omega) rfl dL_law_371 dL_law_372 dL_law_373 dL_law_374 dL_law_375 ?_
  refine l_arg 3 C (by omega) rfl dL_law_376 dL_law_377 dL_law_378 dL_law_379 dL_law_380 ?_
  refine l_call (bb := 0) (ci := 6) (As := [.int (xs (i + 1)), .int (xs (i + 2)), .int (xs (i + 3))]) (rest := []) C dL_law_381 ml_L_44 cw_X6_alter iw_X6_alter ⟨by decide, rfl⟩ ⟨by decide, rfl⟩ rfl rfl (Nat.le_of_ble_eq_true rfl) (h1 11 S (Nat.le_refl _) hI.1) (fun S1 q1 => ?_)
  refine l_al2 C dL_law_384 ?_
  refine l_arg 1 C (by omega) rfl dL_law_385 dL_law_386 dL_law_387 dL_law_388 dL_law_389 ?_
  refine l_arg 2 C (by omega) rfl dL_law_390 dL_law_391 dL_law_392 dL_law_393 dL_law_394 ?_
  refine l_arg 3 C (by omega) rfl dL_law_395 dL_law_396 dL_law_397 dL_law_398 dL_law_399 ?_
  refine l_call (bb := 57) (ci := 7) (As := [.int (xs (i + 1)), .int (xs (i + 2)), .int (xs (i + 3))]) (rest := [.int r]) C dL_law_400 ml_L_48 cw_X7_alter iw_X7_alter ⟨by decide, rfl⟩ ⟨by decide, rfl⟩ rfl rfl (Nat.le_of_ble_eq_true rfl) (h2 11 S1 (Nat.le_refl _) (hI.2.1.c hI.2.2 q1.2)) (fun S2 q2 => ?_)
  exact l_eq C dL_law_403 (k S2 c1 ⟨q1.1.m q2.2, q2.1, h3⟩)
theorem l_case_8 (C : lX p s m c D ad sa cA b L xs) (hi : i + 6 ≤ L) (hI : lI S a) (k : ∀ (S' : ZSt) (c' : Ab), lI S' c' → lJ p l e s m below meth c D ad cA b Q 1453 [] S' i) : lJ p l e s m below meth c D ad cA b Q 408 [] S i := by
  obtain ⟨r, c1, h1, h2, h3⟩ := Both.pr hI.2.2 (pub_march hI.2.2.1 (xs (i + 1)) (xs (i + 2)))
  refine l_al1 C dL_law_408 ?_
  refine l_arg 1 C (by omega) rfl dL_law_409 dL_law_410 dL_law_411 dL_law_412 dL_law_413 ?_
  refine l_arg 2 C (by omega) rfl dL_law_414 dL_law_415 dL_law_416 dL_law_417 dL_law_418 ?_
  refine l_call (bb := 0) (ci := 6) (As := [.int (xs (i + 1)), .int (xs (i + 2))]) (rest := []) C dL_law_419 ml_L_49 cw_X6_march iw_X6_march ⟨by decide, rfl⟩ ⟨by decide, rfl⟩ rfl rfl (Nat.le_of_ble_eq_true rfl) (h1 11 S (Nat.le_refl _) hI.1) (fun S1 q1 => ?_)
  refine l_al2 C dL_law_422 ?_
  refine l_arg 1 C (by omega) rfl dL_law_423 dL_law_424 dL_law_425 dL_law_426 dL_law_427 ?_
  refine l_arg 2 C (by omega) rfl dL_law_428 dL_law_429 dL_law_430 dL_law_431 dL_law_432 ?_
  refine l_call (bb := 57) (ci := 7) (As := [.int (xs (i + 1)), .int (xs (i + 2))]) (rest := [.int r]) C dL_law_433 ml_L_52 cw_X7_march iw_X7_march ⟨by decide, rfl⟩ ⟨by decide, rfl⟩ rfl rfl (Nat.le_of_ble_eq_true rfl) (h2 11 S1 (Nat.le_refl _) (hI.2.1.c hI.2.2 q1.2)) (fun S2 q2 => ?_)
  exact l_eq C dL_law_436 (k S2 c1 ⟨q1.1.m q2.2, q2.1, h3⟩)
theorem l_case_9 (C : lX p s m c D ad sa cA b L xs) (hi : i + 6 ≤ L) (hI : lI S a) (k : ∀ (S' : ZSt) (c' : Ab), lI S' c' → lJ p l e s m below meth c D ad cA b Q 1453 [] S' i) : lJ p l e s m below meth c D ad cA b Q 441 [] S i := by
  obtain ⟨r, c1, h1, h2, h3⟩ := Both.pr hI.2.2 (pub_play hI.2.2.1 (xs (i + 1)) (xs (i + 2)))
  refine l_al1 C dL_law_441 ?_
  refine l_arg 1 C (by omega) rfl dL_law_442 dL_law_443 dL_law_444 dL_law_445 dL_law_446 ?_
  refine l_arg 2 C (by omega) rfl dL_law_447 dL_law_448 dL_law_449 dL_law_450 dL_law_451 ?_
  refine l_call (bb := 0) (ci := 6) (As := [.int (xs (i + 1)), .int (xs (i + 2))]) (rest := []) C dL_law_452 ml_L_53 cw_X6_play iw_X6_play ⟨by decide, rfl⟩ ⟨by decide, rfl⟩ rfl rfl (Nat.le_of_ble_eq_true rfl) (h1 11 S (Nat.le_refl _) hI.1) (fun S1 q1 => ?_)
  refine l_al2 C dL_law_455 ?_
  refine l_arg 1 C (by omega) rfl dL_law_456 dL_law_457 dL_law_458 dL_law_459 dL_law_460 ?_
  refine l_arg 2 C (by omega) rfl dL_law_461 dL_law_462 dL_law_463 dL_law_464 dL_law_465 ?_
  refine l_call (bb := 57) (ci := 7) (As := [.int (xs (i + 1)), .int (xs (i + 2))]) (rest := [.int r]) C dL_law_466 ml_L_56 cw_X7_play iw_X7_play ⟨by decide, rfl⟩ ⟨by decide, rfl⟩ rfl rfl (Nat.le_of_ble_eq_true rfl) (h2 11 S1 (Nat.le_refl _) (hI.2.1.c hI.2.2 q1.2)) (fun S2 q2 => ?_)
  exact l_eq C dL_law_469 (k S2 c1 ⟨q1.1.m q2.2, q2.1, h3⟩)
theorem l_case_10 (C : lX p s m c D ad sa cA b L xs) (hi : i + 6 ≤ L) (hI : lI S a) (k : ∀ (S' : ZSt) (c' : Ab), lI S' c' → lJ p l e s m below meth c D ad cA b Q 1453 [] S' i) : lJ p l e s m below meth c D ad cA b Q 474 [] S i := by
  obtain ⟨r, c1, h1, h2, h3⟩ := Both.pr hI.2.2 (pub_glut hI.2.2.1 (xs (i + 1)))
  refine l_al1 C dL_law_474 ?_
  refine l_arg 1 C (by omega) rfl dL_law_475 dL_law_476 dL_law_477 dL_law_478 dL_law_479 ?_
  refine l_call (bb := 0) (ci := 6) (As := [.int (xs (i + 1))]) (rest := []) C dL_law_480 ml_L_57 cw_X6_glut iw_X6_glut ⟨by decide, rfl⟩ ⟨by decide, rfl⟩ rfl rfl (Nat.le_of_ble_eq_true rfl) (h1 11 S (Nat.le_refl _) hI.1) (fun S1 q1 => ?_)
  refine l_al2 C dL_law_483 ?_
  refine l_arg 1 C (by omega) rfl dL_law_484 dL_law_485 dL_law_486 dL_law_487 dL_law_488 ?_
  refine l_call (bb := 57) (ci := 7) (As := [.int (xs (i + 1))]) (rest := [.int r]) C dL_law_489 ml_L_60 cw_X7_glut iw_X7_glut ⟨by decide, rfl⟩ ⟨by decide, rfl⟩ rfl rfl (Nat.le_of_ble_eq_true rfl) (h2 11 S1 (Nat.le_refl _) (hI.2.1.c hI.2.2 q1.2)) (fun S2 q2 => ?_)
  exact l_eq C dL_law_492 (k S2 c1 ⟨q1.1.m q2.2, q2.1, h3⟩)
theorem l_case_11 (C : lX p s m c D ad sa cA b L xs) (hi : i + 6 ≤ L) (hI : lI S a) (k : ∀ (S' : ZSt) (c' : Ab), lI S' c' → lJ p l e s m below meth c D ad cA b Q 1453 [] S' i) : lJ p l e s m below meth c D ad cA b Q 497 [] S i := by
  obtain ⟨r, c1, h1, h2, h3⟩ := Both.pr hI.2.2 (pub_hire hI.2.2.1 (xs (i + 1)) (xs (i + 2)))
  refine l_al1 C dL_law_497 ?_
  refine l_arg 1 C (by omega) rfl dL_law_498 dL_law_499 dL_law_500 dL_law_501 dL_law_502 ?_
  refine l_arg 2 C (by omega) rfl dL_law_503 dL_law_504 dL_law_505 dL_law_506 dL_law_507 ?_
  refine l_call (bb := 0) (ci := 6) (As := [.int (xs (i + 1)), .int (xs (i + 2))]) (rest := []) C dL_law_508 ml_L_61 cw_X6_hire iw_X6_hire ⟨by decide, rfl⟩ ⟨by decide, rfl⟩ rfl rfl (Nat.le_of_ble_eq_true rfl) (h1 11 S (Nat.le_refl _) hI.1) (fun S1 q1 => ?_)
  refine l_al2 C dL_law_511 ?_
  refine l_arg 1 C (by omega) rfl dL_law_512 dL_law_513 dL_law_514 dL_law_515 dL_law_516 ?_
  refine l_arg 2 C (by omega) rfl dL_law_517 dL_law_518 dL_law_519 dL_law_520 dL_law_521 ?_
  refine l_call (bb := 57) (ci := 7) (As := [.int (xs (i + 1)), .int (xs (i + 2))]) (rest := [.int r]) C dL_law_522 ml_L_64 cw_X7_hire iw_X7_hire ⟨by decide, rfl⟩ ⟨by decide, rfl⟩ rfl rfl (Nat.le_of_ble_eq_true rfl) (h2 11 S1 (Nat.le_refl _) (hI.2.1.c hI.2.2 q1.2)) (fun S2 q2 => ?_)
  exact l_eq C dL_law_525 (k S2 c1 ⟨q1.1.m q2.2, q2.1, h3⟩)
theorem l_case_12 (C : lX p s m c D ad sa cA b L xs) (hi : i + 6 ≤ L) (hI : lI S a) (k : ∀ (S' : ZSt) (c' : Ab), lI S' c' → lJ p l e s m below meth c D ad cA b Q 1453 [] S' i) : lJ p l e s m below meth c D ad cA b Q 530 [] S i := by
  obtain ⟨r, c1, h1, h2, h3⟩ := Both.pr hI.2.2 (pub_leave hI.2.2.1 (xs (i + 1)))
  refine l_al1 C dL_law_530 ?_
  refine l_arg 1 C (by omega) rfl dL_law_531 dL_law_532 dL_law_533 dL_law_534 dL_law_535 ?_
  refine l_call (bb := 0) (ci := 6) (As := [.int (xs (i + 1))]) (rest := []) C dL_law_536 ml_L_65 cw_X6_leave iw_X6_leave ⟨by decide, rfl⟩ ⟨by decide, rfl⟩ rfl rfl (Nat.le_of_ble_eq_true rfl) (h1 11 S (Nat.le_refl _) hI.1) (fun S1 q1 => ?_)
  refine l_al2 C dL_law_539 ?_
  refine l_arg 1 C (by omega) rfl dL_law_540 dL_law_541 dL_law_542 dL_law_543 dL_law_544 ?_
  refine l_call (bb := 57) (ci := 7) (As := [.int (xs (i + 1))]) (rest := [.int r]) C dL_law_545 ml_L_68 cw_X7_leave iw_X7_leave ⟨by decide, rfl⟩ ⟨by decide, rfl⟩ rfl rfl (Nat.le_of_ble_eq_true rfl) (h2 11 S1 (Nat.le_refl _) (hI.2.1.c hI.2.2 q1.2)) (fun S2 q2 => ?_)
  exact l_eq C dL_law_548 (k S2 c1 ⟨q1.1.m q2.2, q2.1, h3⟩)
theorem l_case_13 (C : lX p s m c D ad sa cA b L xs) (hi : i + 6 ≤ L) (hI : lI S a) (k : ∀ (S' : ZSt) (c' : Ab), lI S' c' → lJ p l e s m below meth c D ad cA b Q 1453 [] S' i) : lJ p l e s m below meth c D ad cA b Q 553 [] S i := by
  obtain ⟨r, c1, h1, h2, h3⟩ := Both.pr hI.2.2 (pub_weeks hI.2.2.1 (xs (i + 1)))
  refine l_al1 C dL_law_553 ?_
  refine l_arg 1 C (by omega) rfl dL_law_554 dL_law_555 dL_law_556 dL_law_557 dL_law_558 ?_
  refine l_call (bb := 0) (ci := 6) (As := [.int (xs (i + 1))]) (rest := []) C dL_law_559 ml_L_69 cw_X6_weeks iw_X6_weeks ⟨by decide, rfl⟩ ⟨by decide, rfl⟩ rfl rfl (Nat.le_of_ble_eq_true rfl) (h1 11 S (Nat.le_refl _) hI.1) (fun S1 q1 => ?_)
  refine l_al2 C dL_law_562 ?_
  refine l_arg 1 C (by omega) rfl dL_law_563 dL_law_564 dL_law_565 dL_law_566 dL_law_567 ?_
  refine l_call (bb := 57) (ci := 7) (As := [.int (xs (i + 1))]) (rest := [.int r]) C dL_law_568 ml_L_72 cw_X7_weeks iw_X7_weeks ⟨by decide, rfl⟩ ⟨by decide, rfl⟩ rfl rfl (Nat.le_of_ble_eq_true rfl) (h2 11 S1 (Nat.le_refl _) (hI.2.1.c hI.2.2 q1.2)) (fun S2 q2 => ?_)
  exact l_eq C dL_law_571 (k S2 c1 ⟨q1.1.m q2.2, q2.1, h3⟩)
theorem l_case_14 (C : lX p s m c D ad sa cA b L xs) (hi : i + 6 ≤ L) (hI : lI S a) (k : ∀ (S' : ZSt) (c' : Ab), lI S' c' → lJ p l e s m below meth c D ad cA b Q 1453 [] S' i) : lJ p l e s m below meth c D ad cA b Q 576 [] S i := by
  obtain ⟨r, c1, h1, h2, h3⟩ := Both.pr hI.2.2 (pub_runs hI.2.2.1 (xs (i + 1)) (xs (i + 2)))
  refine l_al1 C dL_law_576 ?_
  refine l_arg 1 C (by omega) rfl dL_law_577 dL_law_578 dL_law_579 dL_law_580 dL_law_581 ?_
  refine l_arg 2 C (by omega) rfl dL_law_582 dL_law_583 dL_law_584 dL_law_585 dL_law_586 ?_
  refine l_call (bb := 0) (ci := 6) (As := [.int (xs (i + 1)), .int (xs (i + 2))]) (rest := []) C dL_law_587 ml_L_73 cw_X6_runs iw_X6_runs ⟨by decide, rfl⟩ ⟨by decide, rfl⟩ rfl rfl (Nat.le_of_ble_eq_true rfl) (h1 11 S (Nat.le_refl _) hI.1) (fun S1 q1 => ?_)
  refine l_al2 C dL_law_590 ?_
  refine l_arg 1 C (by omega) rfl dL_law_591 dL_law_592 dL_law_593 dL_law_594 dL_law_595 ?_
  refine l_arg 2 C (by omega) rfl dL_law_596 dL_law_597 dL_law_598 dL_law_599 dL_law_600 ?_
  refine l_call (bb := 57) (ci := 7) (As := [.int (xs (i + 1)), .int (xs (i + 2))]) (rest := [.int r]) C dL_law_601 ml_L_76 cw_X7_runs iw_X7_runs ⟨by decide, rfl⟩ ⟨by decide, rfl⟩ rfl rfl (Nat.le_of_ble_eq_true rfl) (h2 11 S1 (Nat.le_refl _) (hI.2.1.c hI.2.2 q1.2)) (fun S2 q2 => ?_)
  exact l_eq C dL_law_604 (k S2 c1 ⟨q1.1.m q2.2, q2.1, h3⟩)
theorem l_case_15 (C : lX p s m c D ad sa cA b L xs) (hi : i + 6 ≤ L) (hI : lI S a) (k : ∀ (S' : ZSt) (c' : Ab), lI S' c' → lJ p l e s m below meth c D ad cA b Q 1453 [] S' i) : lJ p l e s m below meth c D ad cA b Q 609 [] S i := by
  obtain ⟨r, c1, h1, h2, h3⟩ := Both.pr hI.2.2 (pub_ahead hI.2.2.1 (xs (i + 1)) (xs (i + 2)) (xs (i + 3)))
  refine l_al1 C dL_law_609 ?_
  refine l_arg 1 C (by omega) rfl dL_law_610 dL_law_611 dL_law_612 dL_law_613 dL_law_614 ?_
  refine l_arg 2 C (by omega) rfl dL_law_615 dL_law_616 dL_law_617 dL_law_618 dL_law_619 ?_
  refine l_arg 3 C (by omega) rfl dL_law_620 dL_law_621 dL_law_622 dL_law_623 dL_law_624 ?_
  refine l_call (bb := 0) (ci := 6) (As := [.int (xs (i + 1)), .int (xs (i + 2)), .int (xs (i + 3))]) (rest := []) C dL_law_625 ml_L_77 cw_X6_ahead iw_X6_ahead ⟨by decide, rfl⟩ ⟨by decide, rfl⟩ rfl rfl (Nat.le_of_ble_eq_true rfl) (h1 11 S (Nat.le_refl _) hI.1) (fun S1 q1 => ?_)
  refine l_al2 C dL_law_628 ?_
  refine l_arg 1 C (by omega) rfl dL_law_629 dL_law_630 dL_law_631 dL_law_632 dL_law_633 ?_
  refine l_arg 2 C (by omega) rfl dL_law_634 dL_law_635 dL_law_636 dL_law_637 dL_law_638 ?_
  refine l_arg 3 C (by omega) rfl dL_law_639 dL_law_640 dL_law_641 dL_law_642 dL_law_643 ?_
  refine l_call (bb := 57) (ci := 7) (As := [.int (xs (i + 1)), .int (xs (i + 2)), .int (xs (i + 3))]) (rest := [.int r]) C dL_law_644 ml_L_80 cw_X7_ahead iw_X7_ahead ⟨by decide, rfl⟩ ⟨by decide, rfl⟩ rfl rfl (Nat.le_of_ble_eq_true rfl) (h2 11 S1 (Nat.le_refl _) (hI.2.1.c hI.2.2 q1.2)) (fun S2 q2 => ?_)
  exact l_eq C dL_law_647 (k S2 c1 ⟨q1.1.m q2.2, q2.1, h3⟩)
theorem l_case_16 (C : lX p s m c D ad sa cA b L xs) (hi : i + 6 ≤ L) (hI : lI S a) (k : ∀ (S' : ZSt) (c' : Ab), lI S' c' → lJ p l e s m below meth c D ad cA b Q 1453 [] S' i) : lJ p l e s m below meth c D ad cA b Q 652 [] S i := by
  obtain ⟨r, c1, h1, h2, h3⟩ := Both.pr hI.2.2 (pub_late hI.2.2.1 (xs (i + 1)) (xs (i + 2)))
  refine l_al1 C dL_law_652 ?_
  refine l_arg 1 C (by omega) rfl dL_law_653 dL_law_654 dL_law_655 dL_law_656 dL_law_657 ?_
  refine l_arg 2 C (by omega) rfl dL_law_658 dL_law_659 dL_law_660 dL_law_661 dL_law_662 ?_
  refine l_call (bb := 0) (ci := 6) (As := [.int (xs (i + 1)), .int (xs (i + 2))]) (rest := []) C dL_law_663 ml_L_81 cw_X6_late iw_X6_late ⟨by decide, rfl⟩ ⟨by decide, rfl⟩ rfl rfl (Nat.le_of_ble_eq_true rfl) (h1 11 S (Nat.le_refl _) hI.1) (fun S1 q1 => ?_)
  refine l_al2 C dL_law_666 ?_
  refine l_arg 1 C (by omega) rfl dL_law_667 dL_law_668 dL_law_669 dL_law_670 dL_law_671 ?_
  refine l_arg 2 C (by omega) rfl dL_law_672 dL_law_673 dL_law_674 dL_law_675 dL_law_676 ?_
  refine l_call (bb := 57) (ci := 7) (As := [.int (xs (i + 1)), .int (xs (i + 2))]) (rest := [.int r]) C dL_law_677 ml_L_84 cw_X7_late iw_X7_late ⟨by decide, rfl⟩ ⟨by decide, rfl⟩ rfl rfl (Nat.le_of_ble_eq_true rfl) (h2 11 S1 (Nat.le_refl _) (hI.2.1.c hI.2.2 q1.2)) (fun S2 q2 => ?_)
  exact l_eq C dL_law_680 (k S2 c1 ⟨q1.1.m q2.2, q2.1, h3⟩)
theorem l_case_17 (C : lX p s m c D ad sa cA b L xs) (hi : i + 6 ≤ L) (hI : lI S a) (k : ∀ (S' : ZSt) (c' : Ab), lI S' c' → lJ p l e s m below meth c D ad cA b Q 1453 [] S' i) : lJ p l e s m below meth c D ad cA b Q 685 [] S i := by
  obtain ⟨r, c1, h1, h2, h3⟩ := Both.pr hI.2.2 (pub_order hI.2.2.1 (xs (i + 1)))
  refine l_al1 C dL_law_685 ?_
  refine l_arg 1 C (by omega) rfl dL_law_686 dL_law_687 dL_law_688 dL_law_689 dL_law_690 ?_
  refine l_call (bb := 0) (ci := 6) (As := [.int (xs (i + 1))]) (rest := []) C dL_law_691 ml_L_85 cw_X6_order iw_X6_order ⟨by decide, rfl⟩ ⟨by decide, rfl⟩ rfl rfl (Nat.le_of_ble_eq_true rfl) (h1 11 S (Nat.le_refl _) hI.1) (fun S1 q1 => ?_)
  refine l_al2 C dL_law_694 ?_
  refine l_arg 1 C (by omega) rfl dL_law_695 dL_law_696 dL_law_697 dL_law_698 dL_law_699 ?_
  refine l_call (bb := 57) (ci := 7) (As := [.int (xs (i + 1))]) (rest := [.int r]) C dL_law_700 ml_L_88 cw_X7_order iw_X7_order ⟨by decide, rfl⟩ ⟨by decide, rfl⟩ rfl rfl (Nat.le_of_ble_eq_true rfl) (h2 11 S1 (Nat.le_refl _) (hI.2.1.c hI.2.2 q1.2)) (fun S2 q2 => ?_)
  exact l_eq C dL_law_703 (k S2 c1 ⟨q1.1.m q2.2, q2.1, h3⟩)
theorem l_case_18 (C : lX p s m c D ad sa cA b L xs) (hi : i + 6 ≤ L) (hI : lI S a) (k : ∀ (S' : ZSt) (c' : Ab), lI S' c' → lJ p l e s m below meth c D ad cA b Q 1453 [] S' i) : lJ p l e s m below meth c D ad cA b Q 708 [] S i := by
  obtain ⟨r, c1, h1, h2, h3⟩ := Both.pr hI.2.2 (pub_move hI.2.2.1 (xs (i + 1)) (xs (i + 2)))
  refine l_al1 C dL_law_708 ?_
  refine l_arg 1 C (by omega) rfl dL_law_709 dL_law_710 dL_law_711 dL_law_712 dL_law_713 ?_
  refine l_arg 2 C (by omega) rfl dL_law_714 dL_law_715 dL_law_716 dL_law_717 dL_law_718 ?_
  refine l_call (bb := 0) (ci := 6) (As := [.int (xs (i + 1)), .int (xs (i + 2))]) (rest := []) C dL_law_719 ml_L_89 cw_X6_move iw_X6_move ⟨by decide, rfl⟩ ⟨by decide, rfl⟩ rfl rfl (Nat.le_of_ble_eq_true rfl) (h1 11 S (Nat.le_refl _) hI.1) (fun S1 q1 => ?_)
  refine l_al2 C dL_law_722 ?_
  refine l_arg 1 C (by omega) rfl dL_law_723 dL_law_724 dL_law_725 dL_law_726 dL_law_727 ?_
  refine l_arg 2 C (by omega) rfl dL_law_728 dL_law_729 dL_law_730 dL_law_731 dL_law_732 ?_
  refine l_call (bb := 57) (ci := 7) (As := [.int (xs (i + 1)), .int (xs (i + 2))]) (rest := [.int r]) C dL_law_733 ml_L_92 cw_X7_move iw_X7_move ⟨by decide, rfl⟩ ⟨by decide, rfl⟩ rfl rfl (Nat.le_of_ble_eq_true rfl) (h2 11 S1 (Nat.le_refl _) (hI.2.1.c hI.2.2 q1.2)) (fun S2 q2 => ?_)
  exact l_eq C dL_law_736 (k S2 c1 ⟨q1.1.m q2.2, q2.1, h3⟩)
theorem l_case_19 (C : lX p s m c D ad sa cA b L xs) (hi : i + 6 ≤ L) (hI : lI S a) (k : ∀ (S' : ZSt) (c' : Ab), lI S' c' → lJ p l e s m below meth c D ad cA b Q 1453 [] S' i) : lJ p l e s m below meth c D ad cA b Q 741 [] S i := by
  obtain ⟨r, c1, h1, h2, h3⟩ := Both.pr hI.2.2 (pub_still hI.2.2.1 (xs (i + 1)) (xs (i + 2)))
  refine l_al1 C dL_law_741 ?_
  refine l_arg 1 C (by omega) rfl dL_law_742 dL_law_743 dL_law_744 dL_law_745 dL_law_746 ?_
  refine l_arg 2 C (by omega) rfl dL_law_747 dL_law_748 dL_law_749 dL_law_750 dL_law_751 ?_
  refine l_call (bb := 0) (ci := 6) (As := [.int (xs (i + 1)), .int (xs (i + 2))]) (rest := []) C dL_law_752 ml_L_93 cw_X6_still iw_X6_still ⟨by decide, rfl⟩ ⟨by decide, rfl⟩ rfl rfl (Nat.le_of_ble_eq_true rfl) (h1 11 S (Nat.le_refl _) hI.1) (fun S1 q1 => ?_)
  refine l_al2 C dL_law_755 ?_
  refine l_arg 1 C (by omega) rfl dL_law_756 dL_law_757 dL_law_758 dL_law_759 dL_law_760 ?_
  refine l_arg 2 C (by omega) rfl dL_law_761 dL_law_762 dL_law_763 dL_law_764 dL_law_765 ?_
  refine l_call (bb := 57) (ci := 7) (As := [.int (xs (i + 1)), .int (xs (i + 2))]) (rest := [.int r]) C dL_law_766 ml_L_96 cw_X7_still iw_X7_still ⟨by decide, rfl⟩ ⟨by decide, rfl⟩ rfl rfl (Nat.le_of_ble_eq_true rfl) (h2 11 S1 (Nat.le_refl _) (hI.2.1.c hI.2.2 q1.2)) (fun S2 q2 => ?_)
  exact l_eq C dL_law_769 (k S2 c1 ⟨q1.1.m q2.2, q2.1, h3⟩)
theorem l_case_20 (C : lX p s m c D ad sa cA b L xs) (hi : i + 6 ≤ L) (hI : lI S a) (k : ∀ (S' : ZSt) (c' : Ab), lI S' c' → lJ p l e s m below meth c D ad cA b Q 1453 [] S' i) : lJ p l e s m below meth c D ad cA b Q 774 [] S i := by
  obtain ⟨r, c1, h1, h2, h3⟩ := Both.pr hI.2.2 (pub_need hI.2.2.1 (xs (i + 1)) (xs (i + 2)) (xs (i + 3)))
  refine l_al1 C dL_law_774 ?_
  refine l_arg 1 C (by omega) rfl dL_law_775 dL_law_776 dL_law_777 dL_law_778 dL_law_779 ?_
  refine l_arg 2 C (by omega) rfl dL_law_780 dL_law_781 dL_law_782 dL_law_783 dL_law_784 ?_
  refine l_arg 3 C (by omega) rfl dL_law_785 dL_law_786 dL_law_787 dL_law_788 dL_law_789 ?_
  refine l_call (bb := 0) (ci := 6) (As := [.int (xs (i + 1)), .int (xs (i + 2)), .int (xs (i + 3))]) (rest := []) C dL_law_790 ml_L_97 cw_X6_need iw_X6_need ⟨by decide, rfl⟩ ⟨by decide, rfl⟩ rfl rfl (Nat.le_of_ble_eq_true rfl) (h1 11 S (Nat.le_refl _) hI.1) (fun S1 q1 => ?_)
  refine l_al2 C dL_law_793 ?_
  refine l_arg 1 C (by omega) rfl dL_law_794 dL_law_795 dL_law_796 dL_law_797 dL_law_798 ?_
  refine l_arg 2 C (by omega) rfl dL_law_799 dL_law_800 dL_law_801 dL_law_802 dL_law_803 ?_
  refine l_arg 3 C (by omega) rfl dL_law_804 dL_law_805 dL_law_806 dL_law_807 dL_law_808 ?_
  refine l_call (bb := 57) (ci := 7) (As := [.int (xs (i + 1)), .int (xs (i + 2)), .int (xs (i + 3))]) (rest := [.int r]) C dL_law_809 ml_L_100 cw_X7_need iw_X7_need ⟨by decide, rfl⟩ ⟨by decide, rfl⟩ rfl rfl (Nat.le_of_ble_eq_true rfl) (h2 11 S1 (Nat.le_refl _) (hI.2.1.c hI.2.2 q1.2)) (fun S2 q2 => ?_)
  exact l_eq C dL_law_812 (k S2 c1 ⟨q1.1.m q2.2, q2.1, h3⟩)
theorem l_case_21 (C : lX p s m c D ad sa cA b L xs) (hi : i + 6 ≤ L) (hI : lI S a) (k : ∀ (S' : ZSt) (c' : Ab), lI S' c' → lJ p l e s m below meth c D ad cA b Q 1453 [] S' i) : lJ p l e s m below meth c D ad cA b Q 817 [] S i := by
  obtain ⟨r, c1, h1, h2, h3⟩ := Both.pr hI.2.2 (pub_swap hI.2.2.1 (xs (i + 1)) (xs (i + 2)))
  refine l_al1 C dL_law_817 ?_
  refine l_arg 1 C (by omega) rfl dL_law_818 dL_law_819 dL_law_820 dL_law_821 dL_law_822 ?_
  refine l_arg 2 C (by omega) rfl dL_law_823 dL_law_824 dL_law_825 dL_law_826 dL_law_827 ?_
  refine l_call (bb := 0) (ci := 6) (As := [.int (xs (i + 1)), .int (xs (i + 2))]) (rest := []) C dL_law_828 ml_L_101 cw_X6_swap iw_X6_swap ⟨by decide, rfl⟩ ⟨by decide, rfl⟩ rfl rfl (Nat.le_of_ble_eq_true rfl) (h1 11 S (Nat.le_refl _) hI.1) (fun S1 q1 => ?_)
  refine l_al2 C dL_law_831 ?_
  refine l_arg 1 C (by omega) rfl dL_law_832 dL_law_833 dL_law_834 dL_law_835 dL_law_836 ?_
  refine l_arg 2 C (by omega) rfl dL_law_837 dL_law_838 dL_law_839 dL_law_840 dL_law_841 ?_
  refine l_call (bb := 57) (ci := 7) (As := [.int (xs (i + 1)), .int (xs (i + 2))]) (rest := [.int r]) C dL_law_842 ml_L_104 cw_X7_swap iw_X7_swap ⟨by decide, rfl⟩ ⟨by decide, rfl⟩ rfl rfl (Nat.le_of_ble_eq_true rfl) (h2 11 S1 (Nat.le_refl _) (hI.2.1.c hI.2.2 q1.2)) (fun S2 q2 => ?_)
  exact l_eq C dL_law_845 (k S2 c1 ⟨q1.1.m q2.2, q2.1, h3⟩)
theorem l_case_22 (C : lX p s m c D ad sa cA b L xs) (hi : i + 6 ≤ L) (hI : lI S a) (k : ∀ (S' : ZSt) (c' : Ab), lI S' c' → lJ p l e s m below meth c D ad cA b Q 1453 [] S' i) : lJ p l e s m below meth c D ad cA b Q 850 [] S i := by
  obtain ⟨r, c1, h1, h2, h3⟩ := Both.pr hI.2.2 (pub_bear hI.2.2.1 (xs (i + 1)) (xs (i + 2)) (xs (i + 3)))
  refine l_al1 C dL_law_850 ?_
  refine l_arg 1 C (by omega) rfl dL_law_851 dL_law_852 dL_law_853 dL_law_854 dL_law_855 ?_
  refine l_arg 2 C (by omega) rfl dL_law_856 dL_law_857 dL_law_858 dL_law_859 dL_law_860 ?_
  refine l_arg 3 C (by omega) rfl dL_law_861 dL_law_862 dL_law_863 dL_law_864 dL_law_865 ?_
  refine l_call (bb := 0) (ci := 6) (As := [.int (xs (i + 1)), .int (xs (i + 2)), .int (xs (i + 3))]) (rest := []) C dL_law_866 ml_L_105 cw_X6_bear iw_X6_bear ⟨by decide, rfl⟩ ⟨by decide, rfl⟩ rfl rfl (Nat.le_of_ble_eq_true rfl) (h1 11 S (Nat.le_refl _) hI.1) (fun S1 q1 => ?_)
  refine l_al2 C dL_law_869 ?_
  refine l_arg 1 C (by omega) rfl dL_law_870 dL_law_871 dL_law_872 dL_law_873 dL_law_874 ?_
  refine l_arg 2 C (by omega) rfl dL_law_875 dL_law_876 dL_law_877 dL_law_878 dL_law_879 ?_
  refine l_arg 3 C (by omega) rfl dL_law_880 dL_law_881 dL_law_882 dL_law_883 dL_law_884 ?_
  refine l_call (bb := 57) (ci := 7) (As := [.int (xs (i + 1)), .int (xs (i + 2)), .int (xs (i + 3))]) (rest := [.int r]) C dL_law_885 ml_L_108 cw_X7_bear iw_X7_bear ⟨by decide, rfl⟩ ⟨by decide, rfl⟩ rfl rfl (Nat.le_of_ble_eq_true rfl) (h2 11 S1 (Nat.le_refl _) (hI.2.1.c hI.2.2 q1.2)) (fun S2 q2 => ?_)
  exact l_eq C dL_law_888 (k S2 c1 ⟨q1.1.m q2.2, q2.1, h3⟩)
theorem l_case_23 (C : lX p s m c D ad sa cA b L xs) (hi : i + 6 ≤ L) (hI : lI S a) (k : ∀ (S' : ZSt) (c' : Ab), lI S' c' → lJ p l e s m below meth c D ad cA b Q 1453 [] S' i) : lJ p l e s m below meth c D ad cA b Q 893 [] S i := by
  obtain ⟨r, c1, h1, h2, h3⟩ := Both.pr hI.2.2 (pub_kind hI.2.2.1 (xs (i + 1)) (xs (i + 2)) (xs (i + 3)))
  refine l_al1 C dL_law_893 ?_
  refine l_arg 1 C (by omega) rfl dL_law_894 dL_law_895 dL_law_896 dL_law_897 dL_law_898 ?_
  refine l_arg 2 C (by omega) rfl dL_law_899 dL_law_900 dL_law_901 dL_law_902 dL_law_903 ?_
  refine l_arg 3 C (by omega) rfl dL_law_904 dL_law_905 dL_law_906 dL_law_907 dL_law_908 ?_
  refine l_call (bb := 0) (ci := 6) (As := [.int (xs (i + 1)), .int (xs (i + 2)), .int (xs (i + 3))]) (rest := []) C dL_law_909 ml_L_109 cw_X6_kind iw_X6_kind ⟨by decide, rfl⟩ ⟨by decide, rfl⟩ rfl rfl (Nat.le_of_ble_eq_true rfl) (h1 11 S (Nat.le_refl _) hI.1) (fun S1 q1 => ?_)
  refine l_al2 C dL_law_912 ?_
  refine l_arg 1 C (by omega) rfl dL_law_913 dL_law_914 dL_law_915 dL_law_916 dL_law_917 ?_
  refine l_arg 2 C (by omega) rfl dL_law_918 dL_law_919 dL_law_920 dL_law_921 dL_law_922 ?_
  refine l_arg 3 C (by omega) rfl dL_law_923 dL_law_924 dL_law_925 dL_law_926 dL_law_927 ?_
  refine l_call (bb := 57) (ci := 7) (As := [.int (xs (i + 1)), .int (xs (i + 2)), .int (xs (i + 3))]) (rest := [.int r]) C dL_law_928 ml_L_112 cw_X7_kind iw_X7_kind ⟨by decide, rfl⟩ ⟨by decide, rfl⟩ rfl rfl (Nat.le_of_ble_eq_true rfl) (h2 11 S1 (Nat.le_refl _) (hI.2.1.c hI.2.2 q1.2)) (fun S2 q2 => ?_)
  exact l_eq C dL_law_931 (k S2 c1 ⟨q1.1.m q2.2, q2.1, h3⟩)
theorem l_case_24 (C : lX p s m c D ad sa cA b L xs) (hi : i + 6 ≤ L) (hI : lI S a) (k : ∀ (S' : ZSt) (c' : Ab), lI S' c' → lJ p l e s m below meth c D ad cA b Q 1453 [] S' i) : lJ p l e s m below meth c D ad cA b Q 936 [] S i := by
  obtain ⟨r, c1, h1, h2, h3⟩ := pr_luck hI.2.2 (xs (i + 1)) (xs (i + 2)) (xs (i + 3)) (xs (i + 4)) (xs (i + 5))
  refine l_al1 C dL_law_936 ?_
  refine l_arg 1 C (by omega) rfl dL_law_937 dL_law_938 dL_law_939 dL_law_940 dL_law_941 ?_
  refine l_arg 2 C (by omega) rfl dL_law_942 dL_law_943 dL_law_944 dL_law_945 dL_law_946 ?_
  refine l_arg 3 C (by omega) rfl dL_law_947 dL_law_948 dL_law_949 dL_law_950 dL_law_951 ?_
  refine l_arg 4 C (by omega) rfl dL_law_952 dL_law_953 dL_law_954 dL_law_955 dL_law_956 ?_
  refine l_arg 5 C (by omega) rfl dL_law_957 dL_law_958 dL_law_959 dL_law_960 dL_law_961 ?_
  refine l_call (bb := 0) (ci := 6) (As := [.int (xs (i + 1)), .int (xs (i + 2)), .int (xs (i + 3)), .int (xs (i + 4)), .int (xs (i + 5))]) (rest := []) C dL_law_962 ml_L_113 cw_X6_luck iw_X6_luck ⟨by decide, rfl⟩ ⟨by decide, rfl⟩ rfl rfl (Nat.le_of_ble_eq_true rfl) (h1 11 S (Nat.le_refl _) hI.1) (fun S1 q1 => ?_)
  refine l_al2 C dL_law_965 ?_
  refine l_arg 1 C (by omega) rfl dL_law_966 dL_law_967 dL_law_968 dL_law_969 dL_law_970 ?_
  refine l_arg 2 C (by omega) rfl dL_law_971 dL_law_972 dL_law_973 dL_law_974 dL_law_975 ?_
  refine l_arg 3 C (by omega) rfl dL_law_976 dL_law_977 dL_law_978 dL_law_979 dL_law_980 ?_
  refine l_arg 4 C (by omega) rfl dL_law_981 dL_law_982 dL_law_983 dL_law_984 dL_law_985 ?_
  refine l_arg 5 C (by omega) rfl dL_law_986 dL_law_987 dL_law_988 dL_law_989 dL_law_990 ?_
  refine l_call (bb := 57) (ci := 7) (As := [.int (xs (i + 1)), .int (xs (i + 2)), .int (xs (i + 3)), .int (xs (i + 4)), .int (xs (i + 5))]) (rest := [.long r]) C dL_law_991 ml_L_117 cw_X7_luck iw_X7_luck ⟨by decide, rfl⟩ ⟨by decide, rfl⟩ rfl rfl (Nat.le_of_ble_eq_true rfl) (h2 11 S1 (Nat.le_refl _) (hI.2.1.c hI.2.2 q1.2)) (fun S2 q2 => ?_)
  exact l_leq C dL_law_994 dL_law_995 (k S2 c1 ⟨q1.1.m q2.2, q2.1, h3⟩)
theorem l_case_25 (C : lX p s m c D ad sa cA b L xs) (hi : i + 6 ≤ L) (hI : lI S a) (k : ∀ (S' : ZSt) (c' : Ab), lI S' c' → lJ p l e s m below meth c D ad cA b Q 1453 [] S' i) : lJ p l e s m below meth c D ad cA b Q 1000 [] S i := by
  obtain ⟨r, c1, h1, h2, h3⟩ := pr_mean hI.2.2 (xs (i + 1)) (xs (i + 2)) (xs (i + 3))
  refine l_al1 C dL_law_1000 ?_
  refine l_arg 1 C (by omega) rfl dL_law_1001 dL_law_1002 dL_law_1003 dL_law_1004 dL_law_1005 ?_
  refine l_arg 2 C (by omega) rfl dL_law_1006 dL_law_1007 dL_law_1008 dL_law_1009 dL_law_1010 ?_
  refine l_arg 3 C (by omega) rfl dL_law_1011 dL_law_1012 dL_law_1013 dL_law_1014 dL_law_1015 ?_
  refine l_call (bb := 0) (ci := 6) (As := [.int (xs (i + 1)), .int (xs (i + 2)), .int (xs (i + 3))]) (rest := []) C dL_law_1016 ml_L_118 cw_X6_mean iw_X6_mean ⟨by decide, rfl⟩ ⟨by decide, rfl⟩ rfl rfl (Nat.le_of_ble_eq_true rfl) (h1 11 S (Nat.le_refl _) hI.1) (fun S1 q1 => ?_)
  refine l_al2 C dL_law_1019 ?_
  refine l_arg 1 C (by omega) rfl dL_law_1020 dL_law_1021 dL_law_1022 dL_law_1023 dL_law_1024 ?_
  refine l_arg 2 C (by omega) rfl dL_law_1025 dL_law_1026 dL_law_1027 dL_law_1028 dL_law_1029 ?_
  refine l_arg 3 C (by omega) rfl dL_law_1030 dL_law_1031 dL_law_1032 dL_law_1033 dL_law_1034 ?_
  refine l_call (bb := 57) (ci := 7) (As := [.int (xs (i + 1)), .int (xs (i + 2)), .int (xs (i + 3))]) (rest := [.long r]) C dL_law_1035 ml_L_122 cw_X7_mean iw_X7_mean ⟨by decide, rfl⟩ ⟨by decide, rfl⟩ rfl rfl (Nat.le_of_ble_eq_true rfl) (h2 11 S1 (Nat.le_refl _) (hI.2.1.c hI.2.2 q1.2)) (fun S2 q2 => ?_)
  exact l_leq C dL_law_1038 dL_law_1039 (k S2 c1 ⟨q1.1.m q2.2, q2.1, h3⟩)
theorem l_case_26 (C : lX p s m c D ad sa cA b L xs) (hi : i + 6 ≤ L) (hI : lI S a) (k : ∀ (S' : ZSt) (c' : Ab), lI S' c' → lJ p l e s m below meth c D ad cA b Q 1453 [] S' i) : lJ p l e s m below meth c D ad cA b Q 1044 [] S i := by
  obtain ⟨r, c1, h1, h2, h3⟩ := Both.pr hI.2.2 (pub_see hI.2.2.1 (xs (i + 1)) (xs (i + 2)) (xs (i + 3)))
  refine l_al1 C dL_law_1044 ?_
  refine l_arg 1 C (by omega) rfl dL_law_1045 dL_law_1046 dL_law_1047 dL_law_1048 dL_law_1049 ?_
  refine l_arg 2 C (by omega) rfl dL_law_1050 dL_law_1051 dL_law_1052 dL_law_1053 dL_law_1054 ?_
  refine l_arg 3 C (by omega) rfl dL_law_1055 dL_law_1056 dL_law_1057 dL_law_1058 dL_law_1059 ?_
  refine l_call (bb := 0) (ci := 6) (As := [.int (xs (i + 1)), .int (xs (i + 2)), .int (xs (i + 3))]) (rest := []) C dL_law_1060 ml_L_123 cw_X6_see iw_X6_see ⟨by decide, rfl⟩ ⟨by decide, rfl⟩ rfl rfl (Nat.le_of_ble_eq_true rfl) (h1 11 S (Nat.le_refl _) hI.1) (fun S1 q1 => ?_)
  refine l_al2 C dL_law_1063 ?_
  refine l_arg 1 C (by omega) rfl dL_law_1064 dL_law_1065 dL_law_1066 dL_law_1067 dL_law_1068 ?_
  refine l_arg 2 C (by omega) rfl dL_law_1069 dL_law_1070 dL_law_1071 dL_law_1072 dL_law_1073 ?_
  refine l_arg 3 C (by omega) rfl dL_law_1074 dL_law_1075 dL_law_1076 dL_law_1077 dL_law_1078 ?_
  refine l_call (bb := 57) (ci := 7) (As := [.int (xs (i + 1)), .int (xs (i + 2)), .int (xs (i + 3))]) (rest := [.int r]) C dL_law_1079 ml_L_126 cw_X7_see iw_X7_see ⟨by decide, rfl⟩ ⟨by decide, rfl⟩ rfl rfl (Nat.le_of_ble_eq_true rfl) (h2 11 S1 (Nat.le_refl _) (hI.2.1.c hI.2.2 q1.2)) (fun S2 q2 => ?_)
  exact l_eq C dL_law_1082 (k S2 c1 ⟨q1.1.m q2.2, q2.1, h3⟩)
theorem l_case_27 (C : lX p s m c D ad sa cA b L xs) (hi : i + 6 ≤ L) (hI : lI S a) (k : ∀ (S' : ZSt) (c' : Ab), lI S' c' → lJ p l e s m below meth c D ad cA b Q 1453 [] S' i) : lJ p l e s m below meth c D ad cA b Q 1087 [] S i := by
  obtain ⟨r, c1, h1, h2, h3⟩ := Both.pr hI.2.2 (pub_forget hI.2.2.1 (xs (i + 1)))
  refine l_al1 C dL_law_1087 ?_
  refine l_arg 1 C (by omega) rfl dL_law_1088 dL_law_1089 dL_law_1090 dL_law_1091 dL_law_1092 ?_
  refine l_call (bb := 0) (ci := 6) (As := [.int (xs (i + 1))]) (rest := []) C dL_law_1093 ml_L_127 cw_X6_forget iw_X6_forget ⟨by decide, rfl⟩ ⟨by decide, rfl⟩ rfl rfl (Nat.le_of_ble_eq_true rfl) (h1 11 S (Nat.le_refl _) hI.1) (fun S1 q1 => ?_)
  refine l_al2 C dL_law_1096 ?_
  refine l_arg 1 C (by omega) rfl dL_law_1097 dL_law_1098 dL_law_1099 dL_law_1100 dL_law_1101 ?_
  refine l_call (bb := 57) (ci := 7) (As := [.int (xs (i + 1))]) (rest := [.int r]) C dL_law_1102 ml_L_130 cw_X7_forget iw_X7_forget ⟨by decide, rfl⟩ ⟨by decide, rfl⟩ rfl rfl (Nat.le_of_ble_eq_true rfl) (h2 11 S1 (Nat.le_refl _) (hI.2.1.c hI.2.2 q1.2)) (fun S2 q2 => ?_)
  exact l_eq C dL_law_1105 (k S2 c1 ⟨q1.1.m q2.2, q2.1, h3⟩)
theorem l_case_28 (C : lX p s m c D ad sa cA b L xs) (hi : i + 6 ≤ L) (hI : lI S a) (k : ∀ (S' : ZSt) (c' : Ab), lI S' c' → lJ p l e s m below meth c D ad cA b Q 1453 [] S' i) : lJ p l e s m below meth c D ad cA b Q 1110 [] S i := by
  obtain ⟨r, c1, h1, h2, h3⟩ := Both.pr hI.2.2 (pub_kinds hI.2.2.1 (xs (i + 1)))
  refine l_al1 C dL_law_1110 ?_
  refine l_arg 1 C (by omega) rfl dL_law_1111 dL_law_1112 dL_law_1113 dL_law_1114 dL_law_1115 ?_
  refine l_call (bb := 0) (ci := 6) (As := [.int (xs (i + 1))]) (rest := []) C dL_law_1116 ml_L_131 cw_X6_kinds iw_X6_kinds ⟨by decide, rfl⟩ ⟨by decide, rfl⟩ rfl rfl (Nat.le_of_ble_eq_true rfl) (h1 11 S (Nat.le_refl _) hI.1) (fun S1 q1 => ?_)
  refine l_al2 C dL_law_1119 ?_
  refine l_arg 1 C (by omega) rfl dL_law_1120 dL_law_1121 dL_law_1122 dL_law_1123 dL_law_1124 ?_
  refine l_call (bb := 57) (ci := 7) (As := [.int (xs (i + 1))]) (rest := [.int r]) C dL_law_1125 ml_L_134 cw_X7_kinds iw_X7_kinds ⟨by decide, rfl⟩ ⟨by decide, rfl⟩ rfl rfl (Nat.le_of_ble_eq_true rfl) (h2 11 S1 (Nat.le_refl _) (hI.2.1.c hI.2.2 q1.2)) (fun S2 q2 => ?_)
  exact l_eq C dL_law_1128 (k S2 c1 ⟨q1.1.m q2.2, q2.1, h3⟩)
theorem l_case_29 (C : lX p s m c D ad sa cA b L xs) (hi : i + 6 ≤ L) (hI : lI S a) (k : ∀ (S' : ZSt) (c' : Ab), lI S' c' → lJ p l e s m below meth c D ad cA b Q 1453 [] S' i) : lJ p l e s m below meth c D ad cA b Q 1133 [] S i := by
  obtain ⟨r, c1, h1, h2, h3⟩ := Both.pr hI.2.2 (pub_blights hI.2.2.1 (xs (i + 1)))
  refine l_al1 C dL_law_1133 ?_
  refine l_arg 1 C (by omega) rfl dL_law_1134 dL_law_1135 dL_law_1136 dL_law_1137 dL_law_1138 ?_
  refine l_call (bb := 0) (ci := 6) (As := [.int (xs (i + 1))]) (rest := []) C dL_law_1139 ml_L_135 cw_X6_blights iw_X6_blights ⟨by decide, rfl⟩ ⟨by decide, rfl⟩ rfl rfl (Nat.le_of_ble_eq_true rfl) (h1 11 S (Nat.le_refl _) hI.1) (fun S1 q1 => ?_)
  refine l_al2 C dL_law_1142 ?_
  refine l_arg 1 C (by omega) rfl dL_law_1143 dL_law_1144 dL_law_1145 dL_law_1146 dL_law_1147 ?_
  refine l_call (bb := 57) (ci := 7) (As := [.int (xs (i + 1))]) (rest := [.int r]) C dL_law_1148 ml_L_138 cw_X7_blights iw_X7_blights ⟨by decide, rfl⟩ ⟨by decide, rfl⟩ rfl rfl (Nat.le_of_ble_eq_true rfl) (h2 11 S1 (Nat.le_refl _) (hI.2.1.c hI.2.2 q1.2)) (fun S2 q2 => ?_)
  exact l_eq C dL_law_1151 (k S2 c1 ⟨q1.1.m q2.2, q2.1, h3⟩)
theorem l_case_30 (C : lX p s m c D ad sa cA b L xs) (hi : i + 6 ≤ L) (hI : lI S a) (k : ∀ (S' : ZSt) (c' : Ab), lI S' c' → lJ p l e s m below meth c D ad cA b Q 1453 [] S' i) : lJ p l e s m below meth c D ad cA b Q 1156 [] S i := by
  obtain ⟨r, c1, h1, h2, h3⟩ := Both.pr hI.2.2 (pub_ask hI.2.2.1 (xs (i + 1)) (xs (i + 2)))
  refine l_al1 C dL_law_1156 ?_
  refine l_arg 1 C (by omega) rfl dL_law_1157 dL_law_1158 dL_law_1159 dL_law_1160 dL_law_1161 ?_
  refine l_arg 2 C (by omega) rfl dL_law_1162 dL_law_1163 dL_law_1164 dL_law_1165 dL_law_1166 ?_
  refine l_call (bb := 0) (ci := 6) (As := [.int (xs (i + 1)), .int (xs (i + 2))]) (rest := []) C dL_law_1167 ml_L_139 cw_X6_ask iw_X6_ask ⟨by decide, rfl⟩ ⟨by decide, rfl⟩ rfl rfl (Nat.le_of_ble_eq_true rfl) (h1 11 S (Nat.le_refl _) hI.1) (fun S1 q1 => ?_)
  refine l_al2 C dL_law_1170 ?_
  refine l_arg 1 C (by omega) rfl dL_law_1171 dL_law_1172 dL_law_1173 dL_law_1174 dL_law_1175 ?_
  refine l_arg 2 C (by omega) rfl dL_law_1176 dL_law_1177 dL_law_1178 dL_law_1179 dL_law_1180 ?_
  refine l_call (bb := 57) (ci := 7) (As := [.int (xs (i + 1)), .int (xs (i + 2))]) (rest := [.int r]) C dL_law_1181 ml_L_142 cw_X7_ask iw_X7_ask ⟨by decide, rfl⟩ ⟨by decide, rfl⟩ rfl rfl (Nat.le_of_ble_eq_true rfl) (h2 11 S1 (Nat.le_refl _) (hI.2.1.c hI.2.2 q1.2)) (fun S2 q2 => ?_)
  exact l_eq C dL_law_1184 (k S2 c1 ⟨q1.1.m q2.2, q2.1, h3⟩)
theorem l_case_31 (C : lX p s m c D ad sa cA b L xs) (hi : i + 6 ≤ L) (hI : lI S a) (k : ∀ (S' : ZSt) (c' : Ab), lI S' c' → lJ p l e s m below meth c D ad cA b Q 1453 [] S' i) : lJ p l e s m below meth c D ad cA b Q 1189 [] S i := by
  obtain ⟨r, c1, h1, h2, h3⟩ := Both.pr hI.2.2 (pub_drift hI.2.2.1 (xs (i + 1)) (xs (i + 2)) (xs (i + 3)))
  refine l_al1 C dL_law_1189 ?_
  refine l_arg 1 C (by omega) rfl dL_law_1190 dL_law_1191 dL_law_1192 dL_law_1193 dL_law_1194 ?_
  refine l_arg 2 C (by omega) rfl dL_law_1195 dL_law_1196 dL_law_1197 dL_law_1198 dL_law_1199 ?_
  refine l_arg 3 C (by omega) rfl dL_law_1200 dL_law_1201 dL_law_1202 dL_law_1203 dL_law_1204 ?_
  refine l_call (bb := 0) (ci := 6) (As := [.int (xs (i + 1)), .int (xs (i + 2)), .int (xs (i + 3))]) (rest := []) C dL_law_1205 ml_L_143 cw_X6_drift iw_X6_drift ⟨by decide, rfl⟩ ⟨by decide, rfl⟩ rfl rfl (Nat.le_of_ble_eq_true rfl) (h1 11 S (Nat.le_refl _) hI.1) (fun S1 q1 => ?_)
  refine l_al2 C dL_law_1208 ?_
  refine l_arg 1 C (by omega) rfl dL_law_1209 dL_law_1210 dL_law_1211 dL_law_1212 dL_law_1213 ?_
  refine l_arg 2 C (by omega) rfl dL_law_1214 dL_law_1215 dL_law_1216 dL_law_1217 dL_law_1218 ?_
  refine l_arg 3 C (by omega) rfl dL_law_1219 dL_law_1220 dL_law_1221 dL_law_1222 dL_law_1223 ?_
  refine l_call (bb := 57) (ci := 7) (As := [.int (xs (i + 1)), .int (xs (i + 2)), .int (xs (i + 3))]) (rest := [.int r]) C dL_law_1224 ml_L_146 cw_X7_drift iw_X7_drift ⟨by decide, rfl⟩ ⟨by decide, rfl⟩ rfl rfl (Nat.le_of_ble_eq_true rfl) (h2 11 S1 (Nat.le_refl _) (hI.2.1.c hI.2.2 q1.2)) (fun S2 q2 => ?_)
  exact l_eq C dL_law_1227 (k S2 c1 ⟨q1.1.m q2.2, q2.1, h3⟩)
theorem l_case_32 (C : lX p s m c D ad sa cA b L xs) (hi : i + 6 ≤ L) (hI : lI S a) (k : ∀ (S' : ZSt) (c' : Ab), lI S' c' → lJ p l e s m below meth c D ad cA b Q 1453 [] S' i) : lJ p l e s m below meth c D ad cA b Q 1232 [] S i := by
  obtain ⟨r, c1, h1, h2, h3⟩ := pr_keep hI.2.2 (xs (i + 1))
  refine l_al1 C dL_law_1232 ?_
  refine l_arg 1 C (by omega) rfl dL_law_1233 dL_law_1234 dL_law_1235 dL_law_1236 dL_law_1237 ?_
  refine l_call (bb := 0) (ci := 6) (As := [.int (xs (i + 1))]) (rest := []) C dL_law_1238 ml_L_147 cw_X6_keep iw_X6_keep ⟨by decide, rfl⟩ ⟨by decide, rfl⟩ rfl rfl (Nat.le_of_ble_eq_true rfl) (h1 11 S (Nat.le_refl _) hI.1) (fun S1 q1 => ?_)
  refine l_al2 C dL_law_1241 ?_
  refine l_arg 1 C (by omega) rfl dL_law_1242 dL_law_1243 dL_law_1244 dL_law_1245 dL_law_1246 ?_
  refine l_call (bb := 57) (ci := 7) (As := [.int (xs (i + 1))]) (rest := [.int r]) C dL_law_1247 ml_L_150 cw_X7_keep iw_X7_keep ⟨by decide, rfl⟩ ⟨by decide, rfl⟩ rfl rfl (Nat.le_of_ble_eq_true rfl) (h2 11 S1 (Nat.le_refl _) (hI.2.1.c hI.2.2 q1.2)) (fun S2 q2 => ?_)
  exact l_eq C dL_law_1250 (k S2 c1 ⟨q1.1.m q2.2, q2.1, h3⟩)
theorem l_case_33 (C : lX p s m c D ad sa cA b L xs) (hi : i + 6 ≤ L) (hI : lI S a) (k : ∀ (S' : ZSt) (c' : Ab), lI S' c' → lJ p l e s m below meth c D ad cA b Q 1453 [] S' i) : lJ p l e s m below meth c D ad cA b Q 1255 [] S i := by
  obtain ⟨r, c1, h1, h2, h3⟩ := pr_back hI.2.2 (xs (i + 1))
  refine l_al1 C dL_law_1255 ?_
  refine l_arg 1 C (by omega) rfl dL_law_1256 dL_law_1257 dL_law_1258 dL_law_1259 dL_law_1260 ?_
  refine l_call (bb := 0) (ci := 6) (As := [.int (xs (i + 1))]) (rest := []) C dL_law_1261 ml_L_151 cw_X6_back iw_X6_back ⟨by decide, rfl⟩ ⟨by decide, rfl⟩ rfl rfl (Nat.le_of_ble_eq_true rfl) (h1 11 S (Nat.le_refl _) hI.1) (fun S1 q1 => ?_)
  refine l_al2 C dL_law_1264 ?_
  refine l_arg 1 C (by omega) rfl dL_law_1265 dL_law_1266 dL_law_1267 dL_law_1268 dL_law_1269 ?_
  refine l_call (bb := 57) (ci := 7) (As := [.int (xs (i + 1))]) (rest := [.int r]) C dL_law_1270 ml_L_154 cw_X7_back iw_X7_back ⟨by decide, rfl⟩ ⟨by decide, rfl⟩ rfl rfl (Nat.le_of_ble_eq_true rfl) (h2 11 S1 (Nat.le_refl _) (hI.2.1.c hI.2.2 q1.2)) (fun S2 q2 => ?_)
  exact l_eq C dL_law_1273 (k S2 c1 ⟨q1.1.m q2.2, q2.1, h3⟩)
theorem l_case_34 (C : lX p s m c D ad sa cA b L xs) (hi : i + 6 ≤ L) (hI : lI S a) (k : ∀ (S' : ZSt) (c' : Ab), lI S' c' → lJ p l e s m below meth c D ad cA b Q 1453 [] S' i) : lJ p l e s m below meth c D ad cA b Q 1278 [] S i := by
  obtain ⟨r, c1, h1, h2, h3⟩ := pr_sheet hI.2.2 (xs (i + 1)) (xs (i + 2)) (xs (i + 3))
  refine l_al1 C dL_law_1278 ?_
  refine l_arg 1 C (by omega) rfl dL_law_1279 dL_law_1280 dL_law_1281 dL_law_1282 dL_law_1283 ?_
  refine l_arg 2 C (by omega) rfl dL_law_1284 dL_law_1285 dL_law_1286 dL_law_1287 dL_law_1288 ?_
  refine l_arg 3 C (by omega) rfl dL_law_1289 dL_law_1290 dL_law_1291 dL_law_1292 dL_law_1293 ?_
  refine l_call (bb := 0) (ci := 6) (As := [.int (xs (i + 1)), .int (xs (i + 2)), .int (xs (i + 3))]) (rest := []) C dL_law_1294 ml_L_155 cw_X6_sheet iw_X6_sheet ⟨by decide, rfl⟩ ⟨by decide, rfl⟩ rfl rfl (Nat.le_of_ble_eq_true rfl) (h1 11 S (Nat.le_refl _) hI.1) (fun S1 q1 => ?_)
  refine l_al2 C dL_law_1297 ?_
  refine l_arg 1 C (by omega) rfl dL_law_1298 dL_law_1299 dL_law_1300 dL_law_1301 dL_law_1302 ?_
  refine l_arg 2 C (by omega) rfl dL_law_1303 dL_law_1304 dL_law_1305 dL_law_1306 dL_law_1307 ?_
  refine l_arg 3 C (by omega) rfl dL_law_1308 dL_law_1309 dL_law_1310 dL_law_1311 dL_law_1312 ?_
  refine l_call (bb := 57) (ci := 7) (As := [.int (xs (i + 1)), .int (xs (i + 2)), .int (xs (i + 3))]) (rest := [.int r]) C dL_law_1313 ml_L_158 cw_X7_sheet iw_X7_sheet ⟨by decide, rfl⟩ ⟨by decide, rfl⟩ rfl rfl (Nat.le_of_ble_eq_true rfl) (h2 11 S1 (Nat.le_refl _) (hI.2.1.c hI.2.2 q1.2)) (fun S2 q2 => ?_)
  exact l_eq C dL_law_1316 (k S2 c1 ⟨q1.1.m q2.2, q2.1, h3⟩)
theorem l_case_35 (C : lX p s m c D ad sa cA b L xs) (hi : i + 6 ≤ L) (hI : lI S a) (k : ∀ (S' : ZSt) (c' : Ab), lI S' c' → lJ p l e s m below meth c D ad cA b Q 1453 [] S' i) : lJ p l e s m below meth c D ad cA b Q 1321 [] S i := by
  obtain ⟨r, c1, h1, h2, h3⟩ := pr_lay hI.2.2 (xs (i + 1)) (xs (i + 2)) (xs (i + 3))
  refine l_al1 C dL_law_1321 ?_
  refine l_arg 1 C (by omega) rfl dL_law_1322 dL_law_1323 dL_law_1324 dL_law_1325 dL_law_1326 ?_
  refine l_arg 2 C (by omega) rfl dL_law_1327 dL_law_1328 dL_law_1329 dL_law_1330 dL_law_1331 ?_
  refine l_arg 3 C (by omega) rfl dL_law_1332 dL_law_1333 dL_law_1334 dL_law_1335 dL_law_1336 ?_
  refine l_call (bb := 0) (ci := 6) (As := [.int (xs (i + 1)), .int (xs (i + 2)), .int (xs (i + 3))]) (rest := []) C dL_law_1337 ml_L_159 cw_X6_lay iw_X6_lay ⟨by decide, rfl⟩ ⟨by decide, rfl⟩ rfl rfl (Nat.le_of_ble_eq_true rfl) (h1 11 S (Nat.le_refl _) hI.1) (fun S1 q1 => ?_)
  refine l_al2 C dL_law_1340 ?_
  refine l_arg 1 C (by omega) rfl dL_law_1341 dL_law_1342 dL_law_1343 dL_law_1344 dL_law_1345 ?_
  refine l_arg 2 C (by omega) rfl dL_law_1346 dL_law_1347 dL_law_1348 dL_law_1349 dL_law_1350 ?_
  refine l_arg 3 C (by omega) rfl dL_law_1351 dL_law_1352 dL_law_1353 dL_law_1354 dL_law_1355 ?_
  refine l_call (bb := 57) (ci := 7) (As := [.int (xs (i + 1)), .int (xs (i + 2)), .int (xs (i + 3))]) (rest := [.int r]) C dL_law_1356 ml_L_162 cw_X7_lay iw_X7_lay ⟨by decide, rfl⟩ ⟨by decide, rfl⟩ rfl rfl (Nat.le_of_ble_eq_true rfl) (h2 11 S1 (Nat.le_refl _) (hI.2.1.c hI.2.2 q1.2)) (fun S2 q2 => ?_)
  exact l_eq C dL_law_1359 (k S2 c1 ⟨q1.1.m q2.2, q2.1, h3⟩)
theorem l_case_36 (C : lX p s m c D ad sa cA b L xs) (hi : i + 6 ≤ L) (hI : lI S a) (k : ∀ (S' : ZSt) (c' : Ab), lI S' c' → lJ p l e s m below meth c D ad cA b Q 1453 [] S' i) : lJ p l e s m below meth c D ad cA b Q 1364 [] S i := by
  obtain ⟨r, c1, h1, h2, h3⟩ := pr_read hI.2.2 (xs (i + 1)) (xs (i + 2)) (xs (i + 3)) (xs (i + 4))
  refine l_al1 C dL_law_1364 ?_
  refine l_arg 1 C (by omega) rfl dL_law_1365 dL_law_1366 dL_law_1367 dL_law_1368 dL_law_1369 ?_
  refine l_arg 2 C (by omega) rfl dL_law_1370 dL_law_1371 dL_law_1372 dL_law_1373 dL_law_1374 ?_
  refine l_arg 3 C (by omega) rfl dL_law_1375 dL_law_1376 dL_law_1377 dL_law_1378 dL_law_1379 ?_
  refine l_arg 4 C (by omega) rfl dL_law_1380 dL_law_1381 dL_law_1382 dL_law_1383 dL_law_1384 ?_
  refine l_call (bb := 0) (ci := 6) (As := [.int (xs (i + 1)), .int (xs (i + 2)), .int (xs (i + 3)), .int (xs (i + 4))]) (rest := []) C dL_law_1385 ml_L_163 cw_X6_read iw_X6_read ⟨by decide, rfl⟩ ⟨by decide, rfl⟩ rfl rfl (Nat.le_of_ble_eq_true rfl) (h1 11 S (Nat.le_refl _) hI.1) (fun S1 q1 => ?_)
  refine l_al2 C dL_law_1388 ?_
  refine l_arg 1 C (by omega) rfl dL_law_1389 dL_law_1390 dL_law_1391 dL_law_1392 dL_law_1393 ?_
  refine l_arg 2 C (by omega) rfl dL_law_1394 dL_law_1395 dL_law_1396 dL_law_1397 dL_law_1398 ?_
  refine l_arg 3 C (by omega) rfl dL_law_1399 dL_law_1400 dL_law_1401 dL_law_1402 dL_law_1403 ?_
  refine l_arg 4 C (by omega) rfl dL_law_1404 dL_law_1405 dL_law_1406 dL_law_1407 dL_law_1408 ?_
  refine l_call (bb := 57) (ci := 7) (As := [.int (xs (i + 1)), .int (xs (i + 2)), .int (xs (i + 3)), .int (xs (i + 4))]) (rest := [.int r]) C dL_law_1409 ml_L_167 cw_X7_read iw_X7_read ⟨by decide, rfl⟩ ⟨by decide, rfl⟩ rfl rfl (Nat.le_of_ble_eq_true rfl) (h2 11 S1 (Nat.le_refl _) (hI.2.1.c hI.2.2 q1.2)) (fun S2 q2 => ?_)
  exact l_eq C dL_law_1412 (k S2 c1 ⟨q1.1.m q2.2, q2.1, h3⟩)
theorem l_case_37 (C : lX p s m c D ad sa cA b L xs) (hi : i + 6 ≤ L) (hI : lI S a) (k : ∀ (S' : ZSt) (c' : Ab), lI S' c' → lJ p l e s m below meth c D ad cA b Q 1453 [] S' i) : lJ p l e s m below meth c D ad cA b Q 1417 [] S i := by
  obtain ⟨r, c1, h1, h2, h3⟩ := pr_torn hI.2.2 
  refine l_al1 C dL_law_1417 ?_
  refine l_call (bb := 0) (ci := 6) (As := []) (rest := []) C dL_law_1418 ml_L_168 cw_X6_torn iw_X6_torn ⟨by decide, rfl⟩ ⟨by decide, rfl⟩ rfl rfl (Nat.le_of_ble_eq_true rfl) (h1 11 S (Nat.le_refl _) hI.1) (fun S1 q1 => ?_)
  refine l_al2 C dL_law_1421 ?_
  refine l_call (bb := 57) (ci := 7) (As := []) (rest := [.int r]) C dL_law_1422 ml_L_171 cw_X7_torn iw_X7_torn ⟨by decide, rfl⟩ ⟨by decide, rfl⟩ rfl rfl (Nat.le_of_ble_eq_true rfl) (h2 11 S1 (Nat.le_refl _) (hI.2.1.c hI.2.2 q1.2)) (fun S2 q2 => ?_)
  exact l_eq C dL_law_1425 (k S2 c1 ⟨q1.1.m q2.2, q2.1, h3⟩)
theorem l_case_38 (C : lX p s m c D ad sa cA b L xs) (hi : i + 6 ≤ L) (hI : lI S a) (k : ∀ (S' : ZSt) (c' : Ab), lI S' c' → lJ p l e s m below meth c D ad cA b Q 1453 [] S' i) : lJ p l e s m below meth c D ad cA b Q 1430 [] S i := by
  obtain ⟨r, c1, h1, h2, h3⟩ := pr_count hI.2.2 (xs (i + 1))
  refine l_al1 C dL_law_1430 ?_
  refine l_arg 1 C (by omega) rfl dL_law_1431 dL_law_1432 dL_law_1433 dL_law_1434 dL_law_1435 ?_
  refine l_call (bb := 0) (ci := 6) (As := [.int (xs (i + 1))]) (rest := []) C dL_law_1436 ml_L_172 cw_X6_count iw_X6_count ⟨by decide, rfl⟩ ⟨by decide, rfl⟩ rfl rfl (Nat.le_of_ble_eq_true rfl) (h1 11 S (Nat.le_refl _) hI.1) (fun S1 q1 => ?_)
  refine l_al2 C dL_law_1439 ?_
  refine l_arg 1 C (by omega) rfl dL_law_1440 dL_law_1441 dL_law_1442 dL_law_1443 dL_law_1444 ?_
  refine l_call (bb := 57) (ci := 7) (As := [.int (xs (i + 1))]) (rest := [.int r]) C dL_law_1445 ml_L_175 cw_X7_count iw_X7_count ⟨by decide, rfl⟩ ⟨by decide, rfl⟩ rfl rfl (Nat.le_of_ble_eq_true rfl) (h2 11 S1 (Nat.le_refl _) (hI.2.1.c hI.2.2 q1.2)) (fun S2 q2 => ?_)
  exact l_eq C dL_law_1448 (k S2 c1 ⟨q1.1.m q2.2, q2.1, h3⟩)
/-- a round of the loop -/
theorem l_round (C : lX p s m c D ad sa cA b L xs) (hi : i + 6 ≤ L) (hI : lI S a) (k : ∀ (S' : ZSt) (c' : Ab), lI S' c' → lJ p l e s m below meth c D ad cA b Q 1453 [] S' i) : lJ p l e s m below meth c D ad cA b Q 27 [] S i := by
  intro H locs ls hP hS hl
  have hLm : L ≤ 3072 := C.2.2.2.2.2.2.2.2.2.2.2.2
  refine lv_aload_n C.1 C.2.1 dL_law_27.1 rfl (lv_at hl 3 rfl) ?_
  refine lv_iload_n C.1 C.2.1 dL_law_28.1 rfl (lv_at hl 0 rfl) ?_
  refine va_sld (A := fun q => s.heap.size ≤ q) C.1 C.2.1 C.2.2.2.2.2.2.2.2.2.2.1 C.2.2.2.2.2.2.2.2.2.2.2.1 (Nat.not_le.mpr C.2.2.2.2.2.2.2.2.2.2.2.1) hS (by
    intro z
    rcases z with z | z
    · exact nI_pos (by omega) z
    · rw [nI_clamp (by omega)] at z; omega) dL_law_29.1 ?_
  refine lv_bipush (v := 63) C.1 C.2.1 dL_law_30.1 (by decide) ?_
  refine lv_iand C.1 C.2.1 dL_law_32.1 ?_
  generalize xs (nI i).toNatClampNeg &&& 63 = y
  by_cases hy : y.toInt < 0 ∨ 38 < y.toInt
  · exact lv_tableOut (tgt := 1453) C.1 C.2.1 dL_law_33.1 hy (by decide) (k S a hI H locs ls hP hS hl)
  · have h1 : ¬ y.toInt < 0 := fun z => hy (Or.inl z)
    have h2 : ¬ 38 < y.toInt := fun z => hy (Or.inr z)
    obtain ⟨t, ht⟩ : ∃ t : Nat, y.toInt = (t : Int) := ⟨y.toInt.toNat, by omega⟩
    by_cases e0 : t = 0
    · exact lv_tableIn (off := 171) (tgt := 204) C.1 C.2.1 dL_law_33.1 h1 h2 (by rw [ht, e0]; rfl) (by decide) (l_case_0 C hi hI k H locs ls hP hS hl)
    by_cases e1 : t = 1
    · exact lv_tableIn (off := 194) (tgt := 227) C.1 C.2.1 dL_law_33.1 h1 h2 (by rw [ht, e1]; rfl) (by decide) (l_case_1 C hi hI k H locs ls hP hS hl)
    by_cases e2 : t = 2
    · exact lv_tableIn (off := 217) (tgt := 250) C.1 C.2.1 dL_law_33.1 h1 h2 (by rw [ht, e2]; rfl) (by decide) (l_case_2 C hi hI k H locs ls hP hS hl)
    by_cases e3 : t = 3
    · exact lv_tableIn (off := 230) (tgt := 263) C.1 C.2.1 dL_law_33.1 h1 h2 (by rw [ht, e3]; rfl) (by decide) (l_case_3 C hi hI k H locs ls hP hS hl)
    by_cases e4 : t = 4
    · exact lv_tableIn (off := 243) (tgt := 276) C.1 C.2.1 dL_law_33.1 h1 h2 (by rw [ht, e4]; rfl) (by decide) (l_case_4 C hi hI k H locs ls hP hS hl)
    by_cases e5 : t = 5
    · exact lv_tableIn (off := 266) (tgt := 299) C.1 C.2.1 dL_law_33.1 h1 h2 (by rw [ht, e5]; rfl) (by decide) (l_case_5 C hi hI k H locs ls hP hS hl)
    by_cases e6 : t = 6
    · exact lv_tableIn (off := 299) (tgt := 332) C.1 C.2.1 dL_law_33.1 h1 h2 (by rw [ht, e6]; rfl) (by decide) (l_case_6 C hi hI k H locs ls hP hS hl)
    by_cases e7 : t = 7
    · exact lv_tableIn (off := 332) (tgt := 365) C.1 C.2.1 dL_law_33.1 h1 h2 (by rw [ht, e7]; rfl) (by decide) (l_case_7 C hi hI k H locs ls hP hS hl)
    by_cases e8 : t = 8
    · exact lv_tableIn (off := 375) (tgt := 408) C.1 C.2.1 dL_law_33.1 h1 h2 (by rw [ht, e8]; rfl) (by decide) (l_case_8 C hi hI k H locs ls hP hS hl)
    by_cases e9 : t = 9
    · exact lv_tableIn (off := 408) (tgt := 441) C.1 C.2.1 dL_law_33.1 h1 h2 (by rw [ht, e9]; rfl) (by decide) (l_case_9 C hi hI k H locs ls hP hS hl)
    by_cases e10 : t = 10
    · exact lv_tableIn (off := 441) (tgt := 474) C.1 C.2.1 dL_law_33.1 h1 h2 (by rw [ht, e10]; rfl) (by decide) (l_case_10 C hi hI k H locs ls hP hS hl)
    by_cases e11 : t = 11
    · exact lv_tableIn (off := 464) (tgt := 497) C.1 C.2.1 dL_law_33.1 h1 h2 (by rw [ht, e11]; rfl) (by decide) (l_case_11 C hi hI k H locs ls hP hS hl)
    by_cases e12 : t = 12
    · exact lv_tableIn (off := 497) (tgt := 530) C.1 C.2.1 dL_law_33.1 h1 h2 (by rw [ht, e12]; rfl) (by decide) (l_case_12 C hi hI k H locs ls hP hS hl)
    by_cases e13 : t = 13
    · exact lv_tableIn (off := 520) (tgt := 553) C.1 C.2.1 dL_law_33.1 h1 h2 (by rw [ht, e13]; rfl) (by decide) (l_case_13 C hi hI k H locs ls hP hS hl)
    by_cases e14 : t = 14
    · exact lv_tableIn (off := 543) (tgt := 576) C.1 C.2.1 dL_law_33.1 h1 h2 (by rw [ht, e14]; rfl) (by decide) (l_case_14 C hi hI k H locs ls hP hS hl)
    by_cases e15 : t = 15
    · exact lv_tableIn (off := 576) (tgt := 609) C.1 C.2.1 dL_law_33.1 h1 h2 (by rw [ht, e15]; rfl) (by decide) (l_case_15 C hi hI k H locs ls hP hS hl)
    by_cases e16 : t = 16
    · exact lv_tableIn (off := 619) (tgt := 652) C.1 C.2.1 dL_law_33.1 h1 h2 (by rw [ht, e16]; rfl) (by decide) (l_case_16 C hi hI k H locs ls hP hS hl)
    by_cases e17 : t = 17
    · exact lv_tableIn (off := 652) (tgt := 685) C.1 C.2.1 dL_law_33.1 h1 h2 (by rw [ht, e17]; rfl) (by decide) (l_case_17 C hi hI k H locs ls hP hS hl)
    by_cases e18 : t = 18
    · exact lv_tableIn (off := 675) (tgt := 708) C.1 C.2.1 dL_law_33.1 h1 h2 (by rw [ht, e18]; rfl) (by decide) (l_case_18 C hi hI k H locs ls hP hS hl)
    by_cases e19 : t = 19
    · exact lv_tableIn (off := 708) (tgt := 741) C.1 C.2.1 dL_law_33.1 h1 h2 (by rw [ht, e19]; rfl) (by decide) (l_case_19 C hi hI k H locs ls hP hS hl)
    by_cases e20 : t = 20
    · exact lv_tableIn (off := 741) (tgt := 774) C.1 C.2.1 dL_law_33.1 h1 h2 (by rw [ht, e20]; rfl) (by decide) (l_case_20 C hi hI k H locs ls hP hS hl)
    by_cases e21 : t = 21
    · exact lv_tableIn (off := 784) (tgt := 817) C.1 C.2.1 dL_law_33.1 h1 h2 (by rw [ht, e21]; rfl) (by decide) (l_case_21 C hi hI k H locs ls hP hS hl)
    by_cases e22 : t = 22
    · exact lv_tableIn (off := 817) (tgt := 850) C.1 C.2.1 dL_law_33.1 h1 h2 (by rw [ht, e22]; rfl) (by decide) (l_case_22 C hi hI k H locs ls hP hS hl)
    by_cases e23 : t = 23
    · exact lv_tableIn (off := 860) (tgt := 893) C.1 C.2.1 dL_law_33.1 h1 h2 (by rw [ht, e23]; rfl) (by decide) (l_case_23 C hi hI k H locs ls hP hS hl)
    by_cases e24 : t = 24
    · exact lv_tableIn (off := 903) (tgt := 936) C.1 C.2.1 dL_law_33.1 h1 h2 (by rw [ht, e24]; rfl) (by decide) (l_case_24 C hi hI k H locs ls hP hS hl)
    by_cases e25 : t = 25
    · exact lv_tableIn (off := 967) (tgt := 1000) C.1 C.2.1 dL_law_33.1 h1 h2 (by rw [ht, e25]; rfl) (by decide) (l_case_25 C hi hI k H locs ls hP hS hl)
    by_cases e26 : t = 26
    · exact lv_tableIn (off := 1011) (tgt := 1044) C.1 C.2.1 dL_law_33.1 h1 h2 (by rw [ht, e26]; rfl) (by decide) (l_case_26 C hi hI k H locs ls hP hS hl)
    by_cases e27 : t = 27
    · exact lv_tableIn (off := 1054) (tgt := 1087) C.1 C.2.1 dL_law_33.1 h1 h2 (by rw [ht, e27]; rfl) (by decide) (l_case_27 C hi hI k H locs ls hP hS hl)
    by_cases e28 : t = 28
    · exact lv_tableIn (off := 1077) (tgt := 1110) C.1 C.2.1 dL_law_33.1 h1 h2 (by rw [ht, e28]; rfl) (by decide) (l_case_28 C hi hI k H locs ls hP hS hl)
    by_cases e29 : t = 29
    · exact lv_tableIn (off := 1100) (tgt := 1133) C.1 C.2.1 dL_law_33.1 h1 h2 (by rw [ht, e29]; rfl) (by decide) (l_case_29 C hi hI k H locs ls hP hS hl)
    by_cases e30 : t = 30
    · exact lv_tableIn (off := 1123) (tgt := 1156) C.1 C.2.1 dL_law_33.1 h1 h2 (by rw [ht, e30]; rfl) (by decide) (l_case_30 C hi hI k H locs ls hP hS hl)
    by_cases e31 : t = 31
    · exact lv_tableIn (off := 1156) (tgt := 1189) C.1 C.2.1 dL_law_33.1 h1 h2 (by rw [ht, e31]; rfl) (by decide) (l_case_31 C hi hI k H locs ls hP hS hl)
    by_cases e32 : t = 32
    · exact lv_tableIn (off := 1199) (tgt := 1232) C.1 C.2.1 dL_law_33.1 h1 h2 (by rw [ht, e32]; rfl) (by decide) (l_case_32 C hi hI k H locs ls hP hS hl)
    by_cases e33 : t = 33
    · exact lv_tableIn (off := 1222) (tgt := 1255) C.1 C.2.1 dL_law_33.1 h1 h2 (by rw [ht, e33]; rfl) (by decide) (l_case_33 C hi hI k H locs ls hP hS hl)
    by_cases e34 : t = 34
    · exact lv_tableIn (off := 1245) (tgt := 1278) C.1 C.2.1 dL_law_33.1 h1 h2 (by rw [ht, e34]; rfl) (by decide) (l_case_34 C hi hI k H locs ls hP hS hl)
    by_cases e35 : t = 35
    · exact lv_tableIn (off := 1288) (tgt := 1321) C.1 C.2.1 dL_law_33.1 h1 h2 (by rw [ht, e35]; rfl) (by decide) (l_case_35 C hi hI k H locs ls hP hS hl)
    by_cases e36 : t = 36
    · exact lv_tableIn (off := 1331) (tgt := 1364) C.1 C.2.1 dL_law_33.1 h1 h2 (by rw [ht, e36]; rfl) (by decide) (l_case_36 C hi hI k H locs ls hP hS hl)
    by_cases e37 : t = 37
    · exact lv_tableIn (off := 1384) (tgt := 1417) C.1 C.2.1 dL_law_33.1 h1 h2 (by rw [ht, e37]; rfl) (by decide) (l_case_37 C hi hI k H locs ls hP hS hl)
    by_cases e38 : t = 38
    · exact lv_tableIn (off := 1397) (tgt := 1430) C.1 C.2.1 dL_law_33.1 h1 h2 (by rw [ht, e38]; rfl) (by decide) (l_case_38 C hi hI k H locs ls hP hS hl)
    omega
theorem l_loop (C : lX p s m c D ad sa cA b L xs) (hend : ∀ (S' : ZSt) (j : Nat), lJ p l e s m below meth c D ad cA b Q 1459 [] S' j) : ∀ (n i : Nat) (S : ZSt) (a : Ab), L + 6 - i ≤ n → i ≤ L + 6 → lI S a → lJ p l e s m below meth c D ad cA b Q 18 [] S i := by
  have hLm : L ≤ 3072 := C.2.2.2.2.2.2.2.2.2.2.2.2
  intro n
  induction n with
  | zero =>
    intro i S a hn hi hI H locs ls hP hS hl
    refine lv_iload_n C.1 C.2.1 dL_law_18.1 rfl (lv_at hl 0 rfl) ?_
    refine lv_aload_n C.1 C.2.1 dL_law_19.1 rfl (lv_at hl 3 rfl) ?_
    refine va_slen (A := fun q => s.heap.size ≤ q) C.1 C.2.1 C.2.2.2.2.2.2.2.2.2.2.1 C.2.2.2.2.2.2.2.2.2.2.2.1 (Nat.not_le.mpr C.2.2.2.2.2.2.2.2.2.2.2.1) hS dL_law_20.1 ?_
    refine lv_bipush (v := 6) C.1 C.2.1 dL_law_21.1 (by decide) ?_
    refine lv_isub C.1 C.2.1 dL_law_23.1 ?_
    obtain ⟨o, g0, g1, -⟩ := dL_law_24
    refine lv_icmp_gt C.1 C.2.1 g0 g1 (fun _ => hend S i H locs ls hP hS hl) (fun z => absurd ?_ z)
    show nI L - 6 < nI i
    rw [nI_iv, nI_iv, show (6 : Int32) = iv 6 from rfl, iv_sub, iv_lt (by unfold inB; omega) (by unfold inB; omega)]
    omega
  | succ n ih =>
    intro i S a hn hi hI H locs ls hP hS hl
    refine lv_iload_n C.1 C.2.1 dL_law_18.1 rfl (lv_at hl 0 rfl) ?_
    refine lv_aload_n C.1 C.2.1 dL_law_19.1 rfl (lv_at hl 3 rfl) ?_
    refine va_slen (A := fun q => s.heap.size ≤ q) C.1 C.2.1 C.2.2.2.2.2.2.2.2.2.2.1 C.2.2.2.2.2.2.2.2.2.2.2.1 (Nat.not_le.mpr C.2.2.2.2.2.2.2.2.2.2.2.1) hS dL_law_20.1 ?_
    refine lv_bipush (v := 6) C.1 C.2.1 dL_law_21.1 (by decide) ?_
    refine lv_isub C.1 C.2.1 dL_law_23.1 ?_
    obtain ⟨o, g0, g1, -⟩ := dL_law_24
    refine lv_icmp_gt C.1 C.2.1 g0 g1 (fun _ => hend S i H locs ls hP hS hl) (fun z => ?_)
    have hle : i + 6 ≤ L := by
      have z2 : ¬ nI L - 6 < nI i := z
      rw [nI_iv, nI_iv, show (6 : Int32) = iv 6 from rfl, iv_sub, iv_lt (by unfold inB; omega) (by unfold inB; omega)] at z2
      omega
    refine l_round C hle hI (fun S2 c2 hI2 => ?_) H locs ls hP hS hl
    intro H2 locs2 ls2 hP2 hS2 hl2
    refine lv_iinc (k := 0) (v := nI (i + 6)) C.1 C.2.1 dL_law_1453.1 hl2 rfl (by rw [nI_iv, nI_iv, show Int32.ofInt 6 = iv 6 from rfl, iv_add]; congr 1) (by decide) rfl (fun ls3 hl3 => ?_)
    obtain ⟨o2, g2, g3⟩ := dL_law_1456
    refine lv_goto C.1 C.2.1 g2 g3 ?_
    exact ih (i + 6) S2 c2 (by omega) (by omega) hI2 H2 locs2 ls3 hP2 hS2 hl3
end LC
