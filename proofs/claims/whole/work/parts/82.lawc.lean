/-! THE LAW'S CASES (laid by wip/glaw.py) -/
section LAWC
variable {l : Launch} {p : Program} {e : Env} {s : State} {m : MethodId} {below : List Frame} {meth : Method} {c : Code} {b L i : Nat} {xs : Nat → Int32} {D : va_G} {ia : Nat → ClassId} {a30 a31 : Nat → Nat} {s1 : ZS}
set_option maxRecDepth 20000 in
theorem lc_0 (hA : lwA p s m meth c b L xs D ia a30 a31) (h5 : i + 5 ≤ L) (hR : RR s1) (kk : ∀ s2, RR s2 → LY l p e s m below meth c b D ia a30 a31 i 1376 [] s2) : LY l p e s m below meth c b D ia a30 a31 i 200 [] s1 := by
  obtain ⟨x, yyA, yyB, hE1, hE2, hR2⟩ := op_feed (l := l) (ad := adz s.heap.size a30 a31) (D := D) (ia := ia) hR (xs (i + 1))
  refine L_a1 hA dL_law_200 ?_
  refine L_arg (j := 1) (t := 1) hA (by omega) dL_law_201 dL_law_202 dL_law_203 rfl dL_law_204 dL_law_205 ?_
  refine L_call (o := 0) (As := [.int (xs (i + 1))]) (rest := []) hA hE1 cvL_13 ⟨8, rfl, zs_8, _, rfl, rfl⟩ rfl rfl (Nat.le_of_ble_eq_true rfl) dL_law_206 ?_
  refine L_a2 hA dL_law_209 ?_
  refine L_arg (j := 1) (t := 1) hA (by omega) dL_law_210 dL_law_211 dL_law_212 rfl dL_law_213 dL_law_214 ?_
  refine L_call (o := 20) (As := [.int (xs (i + 1))]) (rest := [.int x]) hA hE2 cvL_17 ⟨9, rfl, zs_9, _, rfl, rfl⟩ rfl rfl (Nat.le_of_ble_eq_true rfl) dL_law_215 ?_
  exact L_eq hA dL_law_218 (by decide) (kk yyB hR2)
set_option maxRecDepth 20000 in
theorem lc_1 (hA : lwA p s m meth c b L xs D ia a30 a31) (h5 : i + 5 ≤ L) (hR : RR s1) (kk : ∀ s2, RR s2 → LY l p e s m below meth c b D ia a30 a31 i 1376 [] s2) : LY l p e s m below meth c b D ia a30 a31 i 223 [] s1 := by
  obtain ⟨x, yyA, yyB, hE1, hE2, hR2⟩ := op_end (l := l) (ad := adz s.heap.size a30 a31) (D := D) (ia := ia) hR (xs (i + 1))
  refine L_a1 hA dL_law_223 ?_
  refine L_arg (j := 1) (t := 1) hA (by omega) dL_law_224 dL_law_225 dL_law_226 rfl dL_law_227 dL_law_228 ?_
  refine L_call (o := 0) (As := [.int (xs (i + 1))]) (rest := []) hA hE1 cvL_18 ⟨8, rfl, zs_8, _, rfl, rfl⟩ rfl rfl (Nat.le_of_ble_eq_true rfl) dL_law_229 ?_
  refine L_a2 hA dL_law_232 ?_
  refine L_arg (j := 1) (t := 1) hA (by omega) dL_law_233 dL_law_234 dL_law_235 rfl dL_law_236 dL_law_237 ?_
  refine L_call (o := 20) (As := [.int (xs (i + 1))]) (rest := [.int x]) hA hE2 cvL_21 ⟨9, rfl, zs_9, _, rfl, rfl⟩ rfl rfl (Nat.le_of_ble_eq_true rfl) dL_law_238 ?_
  exact L_eq hA dL_law_241 (by decide) (kk yyB hR2)
set_option maxRecDepth 20000 in
theorem lc_2 (hA : lwA p s m meth c b L xs D ia a30 a31) (h5 : i + 5 ≤ L) (hR : RR s1) (kk : ∀ s2, RR s2 → LY l p e s m below meth c b D ia a30 a31 i 1376 [] s2) : LY l p e s m below meth c b D ia a30 a31 i 246 [] s1 := by
  obtain ⟨x, yyA, yyB, hE1, hE2, hR2⟩ := op_text (l := l) (ad := adz s.heap.size a30 a31) (D := D) (ia := ia) hR
  refine L_a1 hA dL_law_246 ?_
  refine L_call (o := 0) (As := []) (rest := []) hA hE1 cvL_22 ⟨8, rfl, zs_8, _, rfl, rfl⟩ rfl rfl (Nat.le_of_ble_eq_true rfl) dL_law_247 ?_
  refine L_a2 hA dL_law_250 ?_
  refine L_call (o := 20) (As := []) (rest := [.int x]) hA hE2 cvL_26 ⟨9, rfl, zs_9, _, rfl, rfl⟩ rfl rfl (Nat.le_of_ble_eq_true rfl) dL_law_251 ?_
  exact L_eq hA dL_law_254 (by decide) (kk yyB hR2)
set_option maxRecDepth 20000 in
theorem lc_3 (hA : lwA p s m meth c b L xs D ia a30 a31) (h5 : i + 5 ≤ L) (hR : RR s1) (kk : ∀ s2, RR s2 → LY l p e s m below meth c b D ia a30 a31 i 1376 [] s2) : LY l p e s m below meth c b D ia a30 a31 i 259 [] s1 := by
  obtain ⟨x, yyA, yyB, hE1, hE2, hR2⟩ := op_fault (l := l) (ad := adz s.heap.size a30 a31) (D := D) (ia := ia) hR
  refine L_a1 hA dL_law_259 ?_
  refine L_call (o := 0) (As := []) (rest := []) hA hE1 cvL_27 ⟨8, rfl, zs_8, _, rfl, rfl⟩ rfl rfl (Nat.le_of_ble_eq_true rfl) dL_law_260 ?_
  refine L_a2 hA dL_law_263 ?_
  refine L_call (o := 20) (As := []) (rest := [.int x]) hA hE2 cvL_30 ⟨9, rfl, zs_9, _, rfl, rfl⟩ rfl rfl (Nat.le_of_ble_eq_true rfl) dL_law_264 ?_
  exact L_eq hA dL_law_267 (by decide) (kk yyB hR2)
set_option maxRecDepth 20000 in
theorem lc_4 (hA : lwA p s m meth c b L xs D ia a30 a31) (h5 : i + 5 ≤ L) (hR : RR s1) (kk : ∀ s2, RR s2 → LY l p e s m below meth c b D ia a30 a31 i 1376 [] s2) : LY l p e s m below meth c b D ia a30 a31 i 272 [] s1 := by
  obtain ⟨x, yyA, yyB, hE1, hE2, hR2⟩ := op_rule (l := l) (ad := adz s.heap.size a30 a31) (D := D) (ia := ia) hR (xs (i + 1))
  refine L_a1 hA dL_law_272 ?_
  refine L_arg (j := 1) (t := 1) hA (by omega) dL_law_273 dL_law_274 dL_law_275 rfl dL_law_276 dL_law_277 ?_
  refine L_call (o := 0) (As := [.int (xs (i + 1))]) (rest := []) hA hE1 cvL_31 ⟨8, rfl, zs_8, _, rfl, rfl⟩ rfl rfl (Nat.le_of_ble_eq_true rfl) dL_law_278 ?_
  refine L_a2 hA dL_law_281 ?_
  refine L_arg (j := 1) (t := 1) hA (by omega) dL_law_282 dL_law_283 dL_law_284 rfl dL_law_285 dL_law_286 ?_
  refine L_call (o := 20) (As := [.int (xs (i + 1))]) (rest := [.int x]) hA hE2 cvL_34 ⟨9, rfl, zs_9, _, rfl, rfl⟩ rfl rfl (Nat.le_of_ble_eq_true rfl) dL_law_287 ?_
  exact L_eq hA dL_law_290 (by decide) (kk yyB hR2)
set_option maxRecDepth 20000 in
theorem lc_5 (hA : lwA p s m meth c b L xs D ia a30 a31) (h5 : i + 5 ≤ L) (hR : RR s1) (kk : ∀ s2, RR s2 → LY l p e s m below meth c b D ia a30 a31 i 1376 [] s2) : LY l p e s m below meth c b D ia a30 a31 i 295 [] s1 := by
  obtain ⟨x, yyA, yyB, hE1, hE2, hR2⟩ := op_book (l := l) (ad := adz s.heap.size a30 a31) (D := D) (ia := ia) hR (xs (i + 1)) (xs (i + 2))
  refine L_a1 hA dL_law_295 ?_
  refine L_arg (j := 1) (t := 1) hA (by omega) dL_law_296 dL_law_297 dL_law_298 rfl dL_law_299 dL_law_300 ?_
  refine L_arg (j := 2) (t := 2) hA (by omega) dL_law_301 dL_law_302 dL_law_303 rfl dL_law_304 dL_law_305 ?_
  refine L_call (o := 0) (As := [.int (xs (i + 1)), .int (xs (i + 2))]) (rest := []) hA hE1 cvL_35 ⟨8, rfl, zs_8, _, rfl, rfl⟩ rfl rfl (Nat.le_of_ble_eq_true rfl) dL_law_306 ?_
  refine L_a2 hA dL_law_309 ?_
  refine L_arg (j := 1) (t := 1) hA (by omega) dL_law_310 dL_law_311 dL_law_312 rfl dL_law_313 dL_law_314 ?_
  refine L_arg (j := 2) (t := 2) hA (by omega) dL_law_315 dL_law_316 dL_law_317 rfl dL_law_318 dL_law_319 ?_
  refine L_call (o := 20) (As := [.int (xs (i + 1)), .int (xs (i + 2))]) (rest := [.int x]) hA hE2 cvL_39 ⟨9, rfl, zs_9, _, rfl, rfl⟩ rfl rfl (Nat.le_of_ble_eq_true rfl) dL_law_320 ?_
  exact L_eq hA dL_law_323 (by decide) (kk yyB hR2)
set_option maxRecDepth 20000 in
theorem lc_6 (hA : lwA p s m meth c b L xs D ia a30 a31) (h5 : i + 5 ≤ L) (hR : RR s1) (kk : ∀ s2, RR s2 → LY l p e s m below meth c b D ia a30 a31 i 1376 [] s2) : LY l p e s m below meth c b D ia a30 a31 i 328 [] s1 := by
  obtain ⟨x, yyA, yyB, hE1, hE2, hR2⟩ := op_reader (l := l) (ad := adz s.heap.size a30 a31) (D := D) (ia := ia) hR (xs (i + 1)) (xs (i + 2))
  refine L_a1 hA dL_law_328 ?_
  refine L_arg (j := 1) (t := 1) hA (by omega) dL_law_329 dL_law_330 dL_law_331 rfl dL_law_332 dL_law_333 ?_
  refine L_arg (j := 2) (t := 2) hA (by omega) dL_law_334 dL_law_335 dL_law_336 rfl dL_law_337 dL_law_338 ?_
  refine L_call (o := 0) (As := [.int (xs (i + 1)), .int (xs (i + 2))]) (rest := []) hA hE1 cvL_40 ⟨8, rfl, zs_8, _, rfl, rfl⟩ rfl rfl (Nat.le_of_ble_eq_true rfl) dL_law_339 ?_
  refine L_a2 hA dL_law_342 ?_
  refine L_arg (j := 1) (t := 1) hA (by omega) dL_law_343 dL_law_344 dL_law_345 rfl dL_law_346 dL_law_347 ?_
  refine L_arg (j := 2) (t := 2) hA (by omega) dL_law_348 dL_law_349 dL_law_350 rfl dL_law_351 dL_law_352 ?_
  refine L_call (o := 20) (As := [.int (xs (i + 1)), .int (xs (i + 2))]) (rest := [.int x]) hA hE2 cvL_43 ⟨9, rfl, zs_9, _, rfl, rfl⟩ rfl rfl (Nat.le_of_ble_eq_true rfl) dL_law_353 ?_
  exact L_eq hA dL_law_356 (by decide) (kk yyB hR2)
set_option maxRecDepth 20000 in
theorem lc_7 (hA : lwA p s m meth c b L xs D ia a30 a31) (h5 : i + 5 ≤ L) (hR : RR s1) (kk : ∀ s2, RR s2 → LY l p e s m below meth c b D ia a30 a31 i 1376 [] s2) : LY l p e s m below meth c b D ia a30 a31 i 361 [] s1 := by
  obtain ⟨x, yyA, yyB, hE1, hE2, hR2⟩ := op_shelve (l := l) (ad := adz s.heap.size a30 a31) (D := D) (ia := ia) hR (xs (i + 1)) (xs (i + 2)) (xs (i + 3))
  refine L_a1 hA dL_law_361 ?_
  refine L_arg (j := 1) (t := 1) hA (by omega) dL_law_362 dL_law_363 dL_law_364 rfl dL_law_365 dL_law_366 ?_
  refine L_arg (j := 2) (t := 2) hA (by omega) dL_law_367 dL_law_368 dL_law_369 rfl dL_law_370 dL_law_371 ?_
  refine L_arg (j := 3) (t := 3) hA (by omega) dL_law_372 dL_law_373 dL_law_374 rfl dL_law_375 dL_law_376 ?_
  refine L_call (o := 0) (As := [.int (xs (i + 1)), .int (xs (i + 2)), .int (xs (i + 3))]) (rest := []) hA hE1 cvL_44 ⟨8, rfl, zs_8, _, rfl, rfl⟩ rfl rfl (Nat.le_of_ble_eq_true rfl) dL_law_377 ?_
  refine L_a2 hA dL_law_380 ?_
  refine L_arg (j := 1) (t := 1) hA (by omega) dL_law_381 dL_law_382 dL_law_383 rfl dL_law_384 dL_law_385 ?_
  refine L_arg (j := 2) (t := 2) hA (by omega) dL_law_386 dL_law_387 dL_law_388 rfl dL_law_389 dL_law_390 ?_
  refine L_arg (j := 3) (t := 3) hA (by omega) dL_law_391 dL_law_392 dL_law_393 rfl dL_law_394 dL_law_395 ?_
  refine L_call (o := 20) (As := [.int (xs (i + 1)), .int (xs (i + 2)), .int (xs (i + 3))]) (rest := [.int x]) hA hE2 cvL_48 ⟨9, rfl, zs_9, _, rfl, rfl⟩ rfl rfl (Nat.le_of_ble_eq_true rfl) dL_law_396 ?_
  exact L_eq hA dL_law_399 (by decide) (kk yyB hR2)
set_option maxRecDepth 20000 in
theorem lc_8 (hA : lwA p s m meth c b L xs D ia a30 a31) (h5 : i + 5 ≤ L) (hR : RR s1) (kk : ∀ s2, RR s2 → LY l p e s m below meth c b D ia a30 a31 i 1376 [] s2) : LY l p e s m below meth c b D ia a30 a31 i 404 [] s1 := by
  obtain ⟨x, yyA, yyB, hE1, hE2, hR2⟩ := op_alter (l := l) (ad := adz s.heap.size a30 a31) (D := D) (ia := ia) hR (xs (i + 1)) (xs (i + 2)) (xs (i + 3))
  refine L_a1 hA dL_law_404 ?_
  refine L_arg (j := 1) (t := 1) hA (by omega) dL_law_405 dL_law_406 dL_law_407 rfl dL_law_408 dL_law_409 ?_
  refine L_arg (j := 2) (t := 2) hA (by omega) dL_law_410 dL_law_411 dL_law_412 rfl dL_law_413 dL_law_414 ?_
  refine L_arg (j := 3) (t := 3) hA (by omega) dL_law_415 dL_law_416 dL_law_417 rfl dL_law_418 dL_law_419 ?_
  refine L_call (o := 0) (As := [.int (xs (i + 1)), .int (xs (i + 2)), .int (xs (i + 3))]) (rest := []) hA hE1 cvL_49 ⟨8, rfl, zs_8, _, rfl, rfl⟩ rfl rfl (Nat.le_of_ble_eq_true rfl) dL_law_420 ?_
  refine L_a2 hA dL_law_423 ?_
  refine L_arg (j := 1) (t := 1) hA (by omega) dL_law_424 dL_law_425 dL_law_426 rfl dL_law_427 dL_law_428 ?_
  refine L_arg (j := 2) (t := 2) hA (by omega) dL_law_429 dL_law_430 dL_law_431 rfl dL_law_432 dL_law_433 ?_
  refine L_arg (j := 3) (t := 3) hA (by omega) dL_law_434 dL_law_435 dL_law_436 rfl dL_law_437 dL_law_438 ?_
  refine L_call (o := 20) (As := [.int (xs (i + 1)), .int (xs (i + 2)), .int (xs (i + 3))]) (rest := [.int x]) hA hE2 cvL_52 ⟨9, rfl, zs_9, _, rfl, rfl⟩ rfl rfl (Nat.le_of_ble_eq_true rfl) dL_law_439 ?_
  exact L_eq hA dL_law_442 (by decide) (kk yyB hR2)
set_option maxRecDepth 20000 in
theorem lc_9 (hA : lwA p s m meth c b L xs D ia a30 a31) (h5 : i + 5 ≤ L) (hR : RR s1) (kk : ∀ s2, RR s2 → LY l p e s m below meth c b D ia a30 a31 i 1376 [] s2) : LY l p e s m below meth c b D ia a30 a31 i 447 [] s1 := by
  obtain ⟨x, yyA, yyB, hE1, hE2, hR2⟩ := op_roll (l := l) (ad := adz s.heap.size a30 a31) (D := D) (ia := ia) hR (xs (i + 1))
  refine L_a1 hA dL_law_447 ?_
  refine L_arg (j := 1) (t := 1) hA (by omega) dL_law_448 dL_law_449 dL_law_450 rfl dL_law_451 dL_law_452 ?_
  refine L_call (o := 0) (As := [.int (xs (i + 1))]) (rest := []) hA hE1 cvL_53 ⟨8, rfl, zs_8, _, rfl, rfl⟩ rfl rfl (Nat.le_of_ble_eq_true rfl) dL_law_453 ?_
  refine L_a2 hA dL_law_456 ?_
  refine L_arg (j := 1) (t := 1) hA (by omega) dL_law_457 dL_law_458 dL_law_459 rfl dL_law_460 dL_law_461 ?_
  refine L_call (o := 20) (As := [.int (xs (i + 1))]) (rest := [.int x]) hA hE2 cvL_56 ⟨9, rfl, zs_9, _, rfl, rfl⟩ rfl rfl (Nat.le_of_ble_eq_true rfl) dL_law_462 ?_
  exact L_eq hA dL_law_465 (by decide) (kk yyB hR2)
set_option maxRecDepth 20000 in
theorem lc_10 (hA : lwA p s m meth c b L xs D ia a30 a31) (h5 : i + 5 ≤ L) (hR : RR s1) (kk : ∀ s2, RR s2 → LY l p e s m below meth c b D ia a30 a31 i 1376 [] s2) : LY l p e s m below meth c b D ia a30 a31 i 470 [] s1 := by
  obtain ⟨x, yyA, yyB, hE1, hE2, hR2⟩ := op_forgets (l := l) (ad := adz s.heap.size a30 a31) (D := D) (ia := ia) hR (xs (i + 1))
  refine L_a1 hA dL_law_470 ?_
  refine L_arg (j := 1) (t := 1) hA (by omega) dL_law_471 dL_law_472 dL_law_473 rfl dL_law_474 dL_law_475 ?_
  refine L_call (o := 0) (As := [.int (xs (i + 1))]) (rest := []) hA hE1 cvL_57 ⟨8, rfl, zs_8, _, rfl, rfl⟩ rfl rfl (Nat.le_of_ble_eq_true rfl) dL_law_476 ?_
  refine L_a2 hA dL_law_479 ?_
  refine L_arg (j := 1) (t := 1) hA (by omega) dL_law_480 dL_law_481 dL_law_482 rfl dL_law_483 dL_law_484 ?_
  refine L_call (o := 20) (As := [.int (xs (i + 1))]) (rest := [.int x]) hA hE2 cvL_60 ⟨9, rfl, zs_9, _, rfl, rfl⟩ rfl rfl (Nat.le_of_ble_eq_true rfl) dL_law_485 ?_
  exact L_eq hA dL_law_488 (by decide) (kk yyB hR2)
set_option maxRecDepth 20000 in
theorem lc_11 (hA : lwA p s m meth c b L xs D ia a30 a31) (h5 : i + 5 ≤ L) (hR : RR s1) (kk : ∀ s2, RR s2 → LY l p e s m below meth c b D ia a30 a31 i 1376 [] s2) : LY l p e s m below meth c b D ia a30 a31 i 493 [] s1 := by
  obtain ⟨x, yyA, yyB, hE1, hE2, hR2⟩ := op_fetch (l := l) (ad := adz s.heap.size a30 a31) (D := D) (ia := ia) hR (xs (i + 1)) (xs (i + 2))
  refine L_a1 hA dL_law_493 ?_
  refine L_arg (j := 1) (t := 1) hA (by omega) dL_law_494 dL_law_495 dL_law_496 rfl dL_law_497 dL_law_498 ?_
  refine L_arg (j := 2) (t := 2) hA (by omega) dL_law_499 dL_law_500 dL_law_501 rfl dL_law_502 dL_law_503 ?_
  refine L_call (o := 0) (As := [.int (xs (i + 1)), .int (xs (i + 2))]) (rest := []) hA hE1 cvL_61 ⟨8, rfl, zs_8, _, rfl, rfl⟩ rfl rfl (Nat.le_of_ble_eq_true rfl) dL_law_504 ?_
  refine L_a2 hA dL_law_507 ?_
  refine L_arg (j := 1) (t := 1) hA (by omega) dL_law_508 dL_law_509 dL_law_510 rfl dL_law_511 dL_law_512 ?_
  refine L_arg (j := 2) (t := 2) hA (by omega) dL_law_513 dL_law_514 dL_law_515 rfl dL_law_516 dL_law_517 ?_
  refine L_call (o := 20) (As := [.int (xs (i + 1)), .int (xs (i + 2))]) (rest := [.int x]) hA hE2 cvL_64 ⟨9, rfl, zs_9, _, rfl, rfl⟩ rfl rfl (Nat.le_of_ble_eq_true rfl) dL_law_518 ?_
  exact L_eq hA dL_law_521 (by decide) (kk yyB hR2)
set_option maxRecDepth 20000 in
theorem lc_12 (hA : lwA p s m meth c b L xs D ia a30 a31) (h5 : i + 5 ≤ L) (hR : RR s1) (kk : ∀ s2, RR s2 → LY l p e s m below meth c b D ia a30 a31 i 1376 [] s2) : LY l p e s m below meth c b D ia a30 a31 i 526 [] s1 := by
  obtain ⟨x, yyA, yyB, hE1, hE2, hR2⟩ := op_days (l := l) (ad := adz s.heap.size a30 a31) (D := D) (ia := ia) hR (xs (i + 1))
  refine L_a1 hA dL_law_526 ?_
  refine L_arg (j := 1) (t := 1) hA (by omega) dL_law_527 dL_law_528 dL_law_529 rfl dL_law_530 dL_law_531 ?_
  refine L_call (o := 0) (As := [.int (xs (i + 1))]) (rest := []) hA hE1 cvL_65 ⟨8, rfl, zs_8, _, rfl, rfl⟩ rfl rfl (Nat.le_of_ble_eq_true rfl) dL_law_532 ?_
  refine L_a2 hA dL_law_535 ?_
  refine L_arg (j := 1) (t := 1) hA (by omega) dL_law_536 dL_law_537 dL_law_538 rfl dL_law_539 dL_law_540 ?_
  refine L_call (o := 20) (As := [.int (xs (i + 1))]) (rest := [.int x]) hA hE2 cvL_68 ⟨9, rfl, zs_9, _, rfl, rfl⟩ rfl rfl (Nat.le_of_ble_eq_true rfl) dL_law_541 ?_
  exact L_eq hA dL_law_544 (by decide) (kk yyB hR2)
set_option maxRecDepth 20000 in
theorem lc_13 (hA : lwA p s m meth c b L xs D ia a30 a31) (h5 : i + 5 ≤ L) (hR : RR s1) (kk : ∀ s2, RR s2 → LY l p e s m below meth c b D ia a30 a31 i 1376 [] s2) : LY l p e s m below meth c b D ia a30 a31 i 549 [] s1 := by
  obtain ⟨x, yyA, yyB, hE1, hE2, hR2⟩ := op_runs (l := l) (ad := adz s.heap.size a30 a31) (D := D) (ia := ia) hR (xs (i + 1)) (xs (i + 2))
  refine L_a1 hA dL_law_549 ?_
  refine L_arg (j := 1) (t := 1) hA (by omega) dL_law_550 dL_law_551 dL_law_552 rfl dL_law_553 dL_law_554 ?_
  refine L_arg (j := 2) (t := 2) hA (by omega) dL_law_555 dL_law_556 dL_law_557 rfl dL_law_558 dL_law_559 ?_
  refine L_call (o := 0) (As := [.int (xs (i + 1)), .int (xs (i + 2))]) (rest := []) hA hE1 cvL_69 ⟨8, rfl, zs_8, _, rfl, rfl⟩ rfl rfl (Nat.le_of_ble_eq_true rfl) dL_law_560 ?_
  refine L_a2 hA dL_law_563 ?_
  refine L_arg (j := 1) (t := 1) hA (by omega) dL_law_564 dL_law_565 dL_law_566 rfl dL_law_567 dL_law_568 ?_
  refine L_arg (j := 2) (t := 2) hA (by omega) dL_law_569 dL_law_570 dL_law_571 rfl dL_law_572 dL_law_573 ?_
  refine L_call (o := 20) (As := [.int (xs (i + 1)), .int (xs (i + 2))]) (rest := [.int x]) hA hE2 cvL_72 ⟨9, rfl, zs_9, _, rfl, rfl⟩ rfl rfl (Nat.le_of_ble_eq_true rfl) dL_law_574 ?_
  exact L_eq hA dL_law_577 (by decide) (kk yyB hR2)
set_option maxRecDepth 20000 in
theorem lc_14 (hA : lwA p s m meth c b L xs D ia a30 a31) (h5 : i + 5 ≤ L) (hR : RR s1) (kk : ∀ s2, RR s2 → LY l p e s m below meth c b D ia a30 a31 i 1376 [] s2) : LY l p e s m below meth c b D ia a30 a31 i 582 [] s1 := by
  obtain ⟨x, yyA, yyB, hE1, hE2, hR2⟩ := op_ahead (l := l) (ad := adz s.heap.size a30 a31) (D := D) (ia := ia) hR (xs (i + 1)) (xs (i + 2)) (xs (i + 3))
  refine L_a1 hA dL_law_582 ?_
  refine L_arg (j := 1) (t := 1) hA (by omega) dL_law_583 dL_law_584 dL_law_585 rfl dL_law_586 dL_law_587 ?_
  refine L_arg (j := 2) (t := 2) hA (by omega) dL_law_588 dL_law_589 dL_law_590 rfl dL_law_591 dL_law_592 ?_
  refine L_arg (j := 3) (t := 3) hA (by omega) dL_law_593 dL_law_594 dL_law_595 rfl dL_law_596 dL_law_597 ?_
  refine L_call (o := 0) (As := [.int (xs (i + 1)), .int (xs (i + 2)), .int (xs (i + 3))]) (rest := []) hA hE1 cvL_73 ⟨8, rfl, zs_8, _, rfl, rfl⟩ rfl rfl (Nat.le_of_ble_eq_true rfl) dL_law_598 ?_
  refine L_a2 hA dL_law_601 ?_
  refine L_arg (j := 1) (t := 1) hA (by omega) dL_law_602 dL_law_603 dL_law_604 rfl dL_law_605 dL_law_606 ?_
  refine L_arg (j := 2) (t := 2) hA (by omega) dL_law_607 dL_law_608 dL_law_609 rfl dL_law_610 dL_law_611 ?_
  refine L_arg (j := 3) (t := 3) hA (by omega) dL_law_612 dL_law_613 dL_law_614 rfl dL_law_615 dL_law_616 ?_
  refine L_call (o := 20) (As := [.int (xs (i + 1)), .int (xs (i + 2)), .int (xs (i + 3))]) (rest := [.int x]) hA hE2 cvL_76 ⟨9, rfl, zs_9, _, rfl, rfl⟩ rfl rfl (Nat.le_of_ble_eq_true rfl) dL_law_617 ?_
  exact L_eq hA dL_law_620 (by decide) (kk yyB hR2)
set_option maxRecDepth 20000 in
theorem lc_15 (hA : lwA p s m meth c b L xs D ia a30 a31) (h5 : i + 5 ≤ L) (hR : RR s1) (kk : ∀ s2, RR s2 → LY l p e s m below meth c b D ia a30 a31 i 1376 [] s2) : LY l p e s m below meth c b D ia a30 a31 i 625 [] s1 := by
  obtain ⟨x, yyA, yyB, hE1, hE2, hR2⟩ := op_done (l := l) (ad := adz s.heap.size a30 a31) (D := D) (ia := ia) hR (xs (i + 1))
  refine L_a1 hA dL_law_625 ?_
  refine L_arg (j := 1) (t := 1) hA (by omega) dL_law_626 dL_law_627 dL_law_628 rfl dL_law_629 dL_law_630 ?_
  refine L_call (o := 0) (As := [.int (xs (i + 1))]) (rest := []) hA hE1 cvL_77 ⟨8, rfl, zs_8, _, rfl, rfl⟩ rfl rfl (Nat.le_of_ble_eq_true rfl) dL_law_631 ?_
  refine L_a2 hA dL_law_634 ?_
  refine L_arg (j := 1) (t := 1) hA (by omega) dL_law_635 dL_law_636 dL_law_637 rfl dL_law_638 dL_law_639 ?_
  refine L_call (o := 20) (As := [.int (xs (i + 1))]) (rest := [.int x]) hA hE2 cvL_80 ⟨9, rfl, zs_9, _, rfl, rfl⟩ rfl rfl (Nat.le_of_ble_eq_true rfl) dL_law_640 ?_
  exact L_eq hA dL_law_643 (by decide) (kk yyB hR2)
set_option maxRecDepth 20000 in
theorem lc_16 (hA : lwA p s m meth c b L xs D ia a30 a31) (h5 : i + 5 ≤ L) (hR : RR s1) (kk : ∀ s2, RR s2 → LY l p e s m below meth c b D ia a30 a31 i 1376 [] s2) : LY l p e s m below meth c b D ia a30 a31 i 648 [] s1 := by
  obtain ⟨x, yyA, yyB, hE1, hE2, hR2⟩ := op_vertigo (l := l) (ad := adz s.heap.size a30 a31) (D := D) (ia := ia) hR (xs (i + 1))
  refine L_a1 hA dL_law_648 ?_
  refine L_arg (j := 1) (t := 1) hA (by omega) dL_law_649 dL_law_650 dL_law_651 rfl dL_law_652 dL_law_653 ?_
  refine L_call (o := 0) (As := [.int (xs (i + 1))]) (rest := []) hA hE1 cvL_81 ⟨8, rfl, zs_8, _, rfl, rfl⟩ rfl rfl (Nat.le_of_ble_eq_true rfl) dL_law_654 ?_
  refine L_a2 hA dL_law_657 ?_
  refine L_arg (j := 1) (t := 1) hA (by omega) dL_law_658 dL_law_659 dL_law_660 rfl dL_law_661 dL_law_662 ?_
  refine L_call (o := 20) (As := [.int (xs (i + 1))]) (rest := [.int x]) hA hE2 cvL_84 ⟨9, rfl, zs_9, _, rfl, rfl⟩ rfl rfl (Nat.le_of_ble_eq_true rfl) dL_law_663 ?_
  exact L_eq hA dL_law_666 (by decide) (kk yyB hR2)
set_option maxRecDepth 20000 in
theorem lc_17 (hA : lwA p s m meth c b L xs D ia a30 a31) (h5 : i + 5 ≤ L) (hR : RR s1) (kk : ∀ s2, RR s2 → LY l p e s m below meth c b D ia a30 a31 i 1376 [] s2) : LY l p e s m below meth c b D ia a30 a31 i 671 [] s1 := by
  obtain ⟨x, yyA, yyB, hE1, hE2, hR2⟩ := op_order (l := l) (ad := adz s.heap.size a30 a31) (D := D) (ia := ia) hR (xs (i + 1))
  refine L_a1 hA dL_law_671 ?_
  refine L_arg (j := 1) (t := 1) hA (by omega) dL_law_672 dL_law_673 dL_law_674 rfl dL_law_675 dL_law_676 ?_
  refine L_call (o := 0) (As := [.int (xs (i + 1))]) (rest := []) hA hE1 cvL_85 ⟨8, rfl, zs_8, _, rfl, rfl⟩ rfl rfl (Nat.le_of_ble_eq_true rfl) dL_law_677 ?_
  refine L_a2 hA dL_law_680 ?_
  refine L_arg (j := 1) (t := 1) hA (by omega) dL_law_681 dL_law_682 dL_law_683 rfl dL_law_684 dL_law_685 ?_
  refine L_call (o := 20) (As := [.int (xs (i + 1))]) (rest := [.int x]) hA hE2 cvL_88 ⟨9, rfl, zs_9, _, rfl, rfl⟩ rfl rfl (Nat.le_of_ble_eq_true rfl) dL_law_686 ?_
  exact L_eq hA dL_law_689 (by decide) (kk yyB hR2)
set_option maxRecDepth 20000 in
theorem lc_18 (hA : lwA p s m meth c b L xs D ia a30 a31) (h5 : i + 5 ≤ L) (hR : RR s1) (kk : ∀ s2, RR s2 → LY l p e s m below meth c b D ia a30 a31 i 1376 [] s2) : LY l p e s m below meth c b D ia a30 a31 i 694 [] s1 := by
  obtain ⟨x, yyA, yyB, hE1, hE2, hR2⟩ := op_start (l := l) (ad := adz s.heap.size a30 a31) (D := D) (ia := ia) hR (xs (i + 1)) (xs (i + 2))
  refine L_a1 hA dL_law_694 ?_
  refine L_arg (j := 1) (t := 1) hA (by omega) dL_law_695 dL_law_696 dL_law_697 rfl dL_law_698 dL_law_699 ?_
  refine L_arg (j := 2) (t := 2) hA (by omega) dL_law_700 dL_law_701 dL_law_702 rfl dL_law_703 dL_law_704 ?_
  refine L_call (o := 0) (As := [.int (xs (i + 1)), .int (xs (i + 2))]) (rest := []) hA hE1 cvL_89 ⟨8, rfl, zs_8, _, rfl, rfl⟩ rfl rfl (Nat.le_of_ble_eq_true rfl) dL_law_705 ?_
  refine L_a2 hA dL_law_708 ?_
  refine L_arg (j := 1) (t := 1) hA (by omega) dL_law_709 dL_law_710 dL_law_711 rfl dL_law_712 dL_law_713 ?_
  refine L_arg (j := 2) (t := 2) hA (by omega) dL_law_714 dL_law_715 dL_law_716 rfl dL_law_717 dL_law_718 ?_
  refine L_call (o := 20) (As := [.int (xs (i + 1)), .int (xs (i + 2))]) (rest := [.int x]) hA hE2 cvL_92 ⟨9, rfl, zs_9, _, rfl, rfl⟩ rfl rfl (Nat.le_of_ble_eq_true rfl) dL_law_719 ?_
  exact L_eq hA dL_law_722 (by decide) (kk yyB hR2)
set_option maxRecDepth 20000 in
theorem lc_19 (hA : lwA p s m meth c b L xs D ia a30 a31) (h5 : i + 5 ≤ L) (hR : RR s1) (kk : ∀ s2, RR s2 → LY l p e s m below meth c b D ia a30 a31 i 1376 [] s2) : LY l p e s m below meth c b D ia a30 a31 i 727 [] s1 := by
  obtain ⟨x, yyA, yyB, hE1, hE2, hR2⟩ := op_swap (l := l) (ad := adz s.heap.size a30 a31) (D := D) (ia := ia) hR (xs (i + 1)) (xs (i + 2))
  refine L_a1 hA dL_law_727 ?_
  refine L_arg (j := 1) (t := 1) hA (by omega) dL_law_728 dL_law_729 dL_law_730 rfl dL_law_731 dL_law_732 ?_
  refine L_arg (j := 2) (t := 2) hA (by omega) dL_law_733 dL_law_734 dL_law_735 rfl dL_law_736 dL_law_737 ?_
  refine L_call (o := 0) (As := [.int (xs (i + 1)), .int (xs (i + 2))]) (rest := []) hA hE1 cvL_93 ⟨8, rfl, zs_8, _, rfl, rfl⟩ rfl rfl (Nat.le_of_ble_eq_true rfl) dL_law_738 ?_
  refine L_a2 hA dL_law_741 ?_
  refine L_arg (j := 1) (t := 1) hA (by omega) dL_law_742 dL_law_743 dL_law_744 rfl dL_law_745 dL_law_746 ?_
  refine L_arg (j := 2) (t := 2) hA (by omega) dL_law_747 dL_law_748 dL_law_749 rfl dL_law_750 dL_law_751 ?_
  refine L_call (o := 20) (As := [.int (xs (i + 1)), .int (xs (i + 2))]) (rest := [.int x]) hA hE2 cvL_96 ⟨9, rfl, zs_9, _, rfl, rfl⟩ rfl rfl (Nat.le_of_ble_eq_true rfl) dL_law_752 ?_
  exact L_eq hA dL_law_755 (by decide) (kk yyB hR2)
set_option maxRecDepth 20000 in
theorem lc_20 (hA : lwA p s m meth c b L xs D ia a30 a31) (h5 : i + 5 ≤ L) (hR : RR s1) (kk : ∀ s2, RR s2 → LY l p e s m below meth c b D ia a30 a31 i 1376 [] s2) : LY l p e s m below meth c b D ia a30 a31 i 760 [] s1 := by
  obtain ⟨x, yyA, yyB, hE1, hE2, hR2⟩ := op_knee (l := l) (ad := adz s.heap.size a30 a31) (D := D) (ia := ia) hR (xs (i + 1)) (xs (i + 2))
  refine L_a1 hA dL_law_760 ?_
  refine L_arg (j := 1) (t := 1) hA (by omega) dL_law_761 dL_law_762 dL_law_763 rfl dL_law_764 dL_law_765 ?_
  refine L_arg (j := 2) (t := 2) hA (by omega) dL_law_766 dL_law_767 dL_law_768 rfl dL_law_769 dL_law_770 ?_
  refine L_call (o := 0) (As := [.int (xs (i + 1)), .int (xs (i + 2))]) (rest := []) hA hE1 cvL_97 ⟨8, rfl, zs_8, _, rfl, rfl⟩ rfl rfl (Nat.le_of_ble_eq_true rfl) dL_law_771 ?_
  refine L_a2 hA dL_law_774 ?_
  refine L_arg (j := 1) (t := 1) hA (by omega) dL_law_775 dL_law_776 dL_law_777 rfl dL_law_778 dL_law_779 ?_
  refine L_arg (j := 2) (t := 2) hA (by omega) dL_law_780 dL_law_781 dL_law_782 rfl dL_law_783 dL_law_784 ?_
  refine L_call (o := 20) (As := [.int (xs (i + 1)), .int (xs (i + 2))]) (rest := [.int x]) hA hE2 cvL_100 ⟨9, rfl, zs_9, _, rfl, rfl⟩ rfl rfl (Nat.le_of_ble_eq_true rfl) dL_law_785 ?_
  exact L_eq hA dL_law_788 (by decide) (kk yyB hR2)
set_option maxRecDepth 20000 in
theorem lc_21 (hA : lwA p s m meth c b L xs D ia a30 a31) (h5 : i + 5 ≤ L) (hR : RR s1) (kk : ∀ s2, RR s2 → LY l p e s m below meth c b D ia a30 a31 i 1376 [] s2) : LY l p e s m below meth c b D ia a30 a31 i 793 [] s1 := by
  obtain ⟨x, yyA, yyB, hE1, hE2, hR2⟩ := op_need (l := l) (ad := adz s.heap.size a30 a31) (D := D) (ia := ia) hR (xs (i + 1)) (xs (i + 2))
  refine L_a1 hA dL_law_793 ?_
  refine L_arg (j := 1) (t := 1) hA (by omega) dL_law_794 dL_law_795 dL_law_796 rfl dL_law_797 dL_law_798 ?_
  refine L_arg (j := 2) (t := 2) hA (by omega) dL_law_799 dL_law_800 dL_law_801 rfl dL_law_802 dL_law_803 ?_
  refine L_call (o := 0) (As := [.int (xs (i + 1)), .int (xs (i + 2))]) (rest := []) hA hE1 cvL_101 ⟨8, rfl, zs_8, _, rfl, rfl⟩ rfl rfl (Nat.le_of_ble_eq_true rfl) dL_law_804 ?_
  refine L_a2 hA dL_law_807 ?_
  refine L_arg (j := 1) (t := 1) hA (by omega) dL_law_808 dL_law_809 dL_law_810 rfl dL_law_811 dL_law_812 ?_
  refine L_arg (j := 2) (t := 2) hA (by omega) dL_law_813 dL_law_814 dL_law_815 rfl dL_law_816 dL_law_817 ?_
  refine L_call (o := 20) (As := [.int (xs (i + 1)), .int (xs (i + 2))]) (rest := [.int x]) hA hE2 cvL_104 ⟨9, rfl, zs_9, _, rfl, rfl⟩ rfl rfl (Nat.le_of_ble_eq_true rfl) dL_law_818 ?_
  exact L_eq hA dL_law_821 (by decide) (kk yyB hR2)
set_option maxRecDepth 20000 in
theorem lc_22 (hA : lwA p s m meth c b L xs D ia a30 a31) (h5 : i + 5 ≤ L) (hR : RR s1) (kk : ∀ s2, RR s2 → LY l p e s m below meth c b D ia a30 a31 i 1376 [] s2) : LY l p e s m below meth c b D ia a30 a31 i 826 [] s1 := by
  obtain ⟨x, yyA, yyB, hE1, hE2, hR2⟩ := op_high (l := l) (ad := adz s.heap.size a30 a31) (D := D) (ia := ia) hR (xs (i + 1)) (xs (i + 2)) (xs (i + 3))
  refine L_a1 hA dL_law_826 ?_
  refine L_arg (j := 1) (t := 1) hA (by omega) dL_law_827 dL_law_828 dL_law_829 rfl dL_law_830 dL_law_831 ?_
  refine L_arg (j := 2) (t := 2) hA (by omega) dL_law_832 dL_law_833 dL_law_834 rfl dL_law_835 dL_law_836 ?_
  refine L_arg (j := 3) (t := 3) hA (by omega) dL_law_837 dL_law_838 dL_law_839 rfl dL_law_840 dL_law_841 ?_
  refine L_call (o := 0) (As := [.int (xs (i + 1)), .int (xs (i + 2)), .int (xs (i + 3))]) (rest := []) hA hE1 cvL_105 ⟨8, rfl, zs_8, _, rfl, rfl⟩ rfl rfl (Nat.le_of_ble_eq_true rfl) dL_law_842 ?_
  refine L_a2 hA dL_law_845 ?_
  refine L_arg (j := 1) (t := 1) hA (by omega) dL_law_846 dL_law_847 dL_law_848 rfl dL_law_849 dL_law_850 ?_
  refine L_arg (j := 2) (t := 2) hA (by omega) dL_law_851 dL_law_852 dL_law_853 rfl dL_law_854 dL_law_855 ?_
  refine L_arg (j := 3) (t := 3) hA (by omega) dL_law_856 dL_law_857 dL_law_858 rfl dL_law_859 dL_law_860 ?_
  refine L_call (o := 20) (As := [.int (xs (i + 1)), .int (xs (i + 2)), .int (xs (i + 3))]) (rest := [.int x]) hA hE2 cvL_108 ⟨9, rfl, zs_9, _, rfl, rfl⟩ rfl rfl (Nat.le_of_ble_eq_true rfl) dL_law_861 ?_
  exact L_eq hA dL_law_864 (by decide) (kk yyB hR2)
set_option maxRecDepth 20000 in
theorem lc_23 (hA : lwA p s m meth c b L xs D ia a30 a31) (h5 : i + 5 ≤ L) (hR : RR s1) (kk : ∀ s2, RR s2 → LY l p e s m below meth c b D ia a30 a31 i 1376 [] s2) : LY l p e s m below meth c b D ia a30 a31 i 869 [] s1 := by
  obtain ⟨x, yyA, yyB, hE1, hE2, hR2⟩ := op_luck (l := l) (ad := adz s.heap.size a30 a31) (D := D) (ia := ia) hR (xs (i + 1)) (xs (i + 2)) (xs (i + 3)) (xs (i + 4))
  refine L_a1 hA dL_law_869 ?_
  refine L_arg (j := 1) (t := 1) hA (by omega) dL_law_870 dL_law_871 dL_law_872 rfl dL_law_873 dL_law_874 ?_
  refine L_arg (j := 2) (t := 2) hA (by omega) dL_law_875 dL_law_876 dL_law_877 rfl dL_law_878 dL_law_879 ?_
  refine L_arg (j := 3) (t := 3) hA (by omega) dL_law_880 dL_law_881 dL_law_882 rfl dL_law_883 dL_law_884 ?_
  refine L_arg (j := 4) (t := 4) hA (by omega) dL_law_885 dL_law_886 dL_law_887 rfl dL_law_888 dL_law_889 ?_
  refine L_call (o := 0) (As := [.int (xs (i + 1)), .int (xs (i + 2)), .int (xs (i + 3)), .int (xs (i + 4))]) (rest := []) hA hE1 cvL_109 ⟨8, rfl, zs_8, _, rfl, rfl⟩ rfl rfl (Nat.le_of_ble_eq_true rfl) dL_law_890 ?_
  refine L_a2 hA dL_law_893 ?_
  refine L_arg (j := 1) (t := 1) hA (by omega) dL_law_894 dL_law_895 dL_law_896 rfl dL_law_897 dL_law_898 ?_
  refine L_arg (j := 2) (t := 2) hA (by omega) dL_law_899 dL_law_900 dL_law_901 rfl dL_law_902 dL_law_903 ?_
  refine L_arg (j := 3) (t := 3) hA (by omega) dL_law_904 dL_law_905 dL_law_906 rfl dL_law_907 dL_law_908 ?_
  refine L_arg (j := 4) (t := 4) hA (by omega) dL_law_909 dL_law_910 dL_law_911 rfl dL_law_912 dL_law_913 ?_
  refine L_call (o := 20) (As := [.int (xs (i + 1)), .int (xs (i + 2)), .int (xs (i + 3)), .int (xs (i + 4))]) (rest := [.long x]) hA hE2 cvL_113 ⟨9, rfl, zs_9, _, rfl, rfl⟩ rfl rfl (Nat.le_of_ble_eq_true rfl) dL_law_914 ?_
  exact L_leq hA dL_law_917 dL_law_918 (by decide) (kk yyB hR2)
set_option maxRecDepth 20000 in
theorem lc_24 (hA : lwA p s m meth c b L xs D ia a30 a31) (h5 : i + 5 ≤ L) (hR : RR s1) (kk : ∀ s2, RR s2 → LY l p e s m below meth c b D ia a30 a31 i 1376 [] s2) : LY l p e s m below meth c b D ia a30 a31 i 923 [] s1 := by
  obtain ⟨x, yyA, yyB, hE1, hE2, hR2⟩ := op_mean (l := l) (ad := adz s.heap.size a30 a31) (D := D) (ia := ia) hR (xs (i + 1)) (xs (i + 2)) (xs (i + 3))
  refine L_a1 hA dL_law_923 ?_
  refine L_arg (j := 1) (t := 1) hA (by omega) dL_law_924 dL_law_925 dL_law_926 rfl dL_law_927 dL_law_928 ?_
  refine L_arg (j := 2) (t := 2) hA (by omega) dL_law_929 dL_law_930 dL_law_931 rfl dL_law_932 dL_law_933 ?_
  refine L_arg (j := 3) (t := 3) hA (by omega) dL_law_934 dL_law_935 dL_law_936 rfl dL_law_937 dL_law_938 ?_
  refine L_call (o := 0) (As := [.int (xs (i + 1)), .int (xs (i + 2)), .int (xs (i + 3))]) (rest := []) hA hE1 cvL_114 ⟨8, rfl, zs_8, _, rfl, rfl⟩ rfl rfl (Nat.le_of_ble_eq_true rfl) dL_law_939 ?_
  refine L_a2 hA dL_law_942 ?_
  refine L_arg (j := 1) (t := 1) hA (by omega) dL_law_943 dL_law_944 dL_law_945 rfl dL_law_946 dL_law_947 ?_
  refine L_arg (j := 2) (t := 2) hA (by omega) dL_law_948 dL_law_949 dL_law_950 rfl dL_law_951 dL_law_952 ?_
  refine L_arg (j := 3) (t := 3) hA (by omega) dL_law_953 dL_law_954 dL_law_955 rfl dL_law_956 dL_law_957 ?_
  refine L_call (o := 20) (As := [.int (xs (i + 1)), .int (xs (i + 2)), .int (xs (i + 3))]) (rest := [.long x]) hA hE2 cvL_118 ⟨9, rfl, zs_9, _, rfl, rfl⟩ rfl rfl (Nat.le_of_ble_eq_true rfl) dL_law_958 ?_
  exact L_leq hA dL_law_961 dL_law_962 (by decide) (kk yyB hR2)
set_option maxRecDepth 20000 in
theorem lc_25 (hA : lwA p s m meth c b L xs D ia a30 a31) (h5 : i + 5 ≤ L) (hR : RR s1) (kk : ∀ s2, RR s2 → LY l p e s m below meth c b D ia a30 a31 i 1376 [] s2) : LY l p e s m below meth c b D ia a30 a31 i 967 [] s1 := by
  obtain ⟨x, yyA, yyB, hE1, hE2, hR2⟩ := op_see (l := l) (ad := adz s.heap.size a30 a31) (D := D) (ia := ia) hR (xs (i + 1)) (xs (i + 2)) (xs (i + 3))
  refine L_a1 hA dL_law_967 ?_
  refine L_arg (j := 1) (t := 1) hA (by omega) dL_law_968 dL_law_969 dL_law_970 rfl dL_law_971 dL_law_972 ?_
  refine L_arg (j := 2) (t := 2) hA (by omega) dL_law_973 dL_law_974 dL_law_975 rfl dL_law_976 dL_law_977 ?_
  refine L_arg (j := 3) (t := 3) hA (by omega) dL_law_978 dL_law_979 dL_law_980 rfl dL_law_981 dL_law_982 ?_
  refine L_call (o := 0) (As := [.int (xs (i + 1)), .int (xs (i + 2)), .int (xs (i + 3))]) (rest := []) hA hE1 cvL_119 ⟨8, rfl, zs_8, _, rfl, rfl⟩ rfl rfl (Nat.le_of_ble_eq_true rfl) dL_law_983 ?_
  refine L_a2 hA dL_law_986 ?_
  refine L_arg (j := 1) (t := 1) hA (by omega) dL_law_987 dL_law_988 dL_law_989 rfl dL_law_990 dL_law_991 ?_
  refine L_arg (j := 2) (t := 2) hA (by omega) dL_law_992 dL_law_993 dL_law_994 rfl dL_law_995 dL_law_996 ?_
  refine L_arg (j := 3) (t := 3) hA (by omega) dL_law_997 dL_law_998 dL_law_999 rfl dL_law_1000 dL_law_1001 ?_
  refine L_call (o := 20) (As := [.int (xs (i + 1)), .int (xs (i + 2)), .int (xs (i + 3))]) (rest := [.int x]) hA hE2 cvL_122 ⟨9, rfl, zs_9, _, rfl, rfl⟩ rfl rfl (Nat.le_of_ble_eq_true rfl) dL_law_1002 ?_
  exact L_eq hA dL_law_1005 (by decide) (kk yyB hR2)
set_option maxRecDepth 20000 in
theorem lc_26 (hA : lwA p s m meth c b L xs D ia a30 a31) (h5 : i + 5 ≤ L) (hR : RR s1) (kk : ∀ s2, RR s2 → LY l p e s m below meth c b D ia a30 a31 i 1376 [] s2) : LY l p e s m below meth c b D ia a30 a31 i 1010 [] s1 := by
  obtain ⟨x, yyA, yyB, hE1, hE2, hR2⟩ := op_forget (l := l) (ad := adz s.heap.size a30 a31) (D := D) (ia := ia) hR (xs (i + 1))
  refine L_a1 hA dL_law_1010 ?_
  refine L_arg (j := 1) (t := 1) hA (by omega) dL_law_1011 dL_law_1012 dL_law_1013 rfl dL_law_1014 dL_law_1015 ?_
  refine L_call (o := 0) (As := [.int (xs (i + 1))]) (rest := []) hA hE1 cvL_123 ⟨8, rfl, zs_8, _, rfl, rfl⟩ rfl rfl (Nat.le_of_ble_eq_true rfl) dL_law_1016 ?_
  refine L_a2 hA dL_law_1019 ?_
  refine L_arg (j := 1) (t := 1) hA (by omega) dL_law_1020 dL_law_1021 dL_law_1022 rfl dL_law_1023 dL_law_1024 ?_
  refine L_call (o := 20) (As := [.int (xs (i + 1))]) (rest := [.int x]) hA hE2 cvL_126 ⟨9, rfl, zs_9, _, rfl, rfl⟩ rfl rfl (Nat.le_of_ble_eq_true rfl) dL_law_1025 ?_
  exact L_eq hA dL_law_1028 (by decide) (kk yyB hR2)
set_option maxRecDepth 20000 in
theorem lc_27 (hA : lwA p s m meth c b L xs D ia a30 a31) (h5 : i + 5 ≤ L) (hR : RR s1) (kk : ∀ s2, RR s2 → LY l p e s m below meth c b D ia a30 a31 i 1376 [] s2) : LY l p e s m below meth c b D ia a30 a31 i 1033 [] s1 := by
  obtain ⟨x, yyA, yyB, hE1, hE2, hR2⟩ := op_kinds (l := l) (ad := adz s.heap.size a30 a31) (D := D) (ia := ia) hR (xs (i + 1))
  refine L_a1 hA dL_law_1033 ?_
  refine L_arg (j := 1) (t := 1) hA (by omega) dL_law_1034 dL_law_1035 dL_law_1036 rfl dL_law_1037 dL_law_1038 ?_
  refine L_call (o := 0) (As := [.int (xs (i + 1))]) (rest := []) hA hE1 cvL_127 ⟨8, rfl, zs_8, _, rfl, rfl⟩ rfl rfl (Nat.le_of_ble_eq_true rfl) dL_law_1039 ?_
  refine L_a2 hA dL_law_1042 ?_
  refine L_arg (j := 1) (t := 1) hA (by omega) dL_law_1043 dL_law_1044 dL_law_1045 rfl dL_law_1046 dL_law_1047 ?_
  refine L_call (o := 20) (As := [.int (xs (i + 1))]) (rest := [.int x]) hA hE2 cvL_130 ⟨9, rfl, zs_9, _, rfl, rfl⟩ rfl rfl (Nat.le_of_ble_eq_true rfl) dL_law_1048 ?_
  exact L_eq hA dL_law_1051 (by decide) (kk yyB hR2)
set_option maxRecDepth 20000 in
theorem lc_28 (hA : lwA p s m meth c b L xs D ia a30 a31) (h5 : i + 5 ≤ L) (hR : RR s1) (kk : ∀ s2, RR s2 → LY l p e s m below meth c b D ia a30 a31 i 1376 [] s2) : LY l p e s m below meth c b D ia a30 a31 i 1056 [] s1 := by
  obtain ⟨x, yyA, yyB, hE1, hE2, hR2⟩ := op_heights (l := l) (ad := adz s.heap.size a30 a31) (D := D) (ia := ia) hR (xs (i + 1))
  refine L_a1 hA dL_law_1056 ?_
  refine L_arg (j := 1) (t := 1) hA (by omega) dL_law_1057 dL_law_1058 dL_law_1059 rfl dL_law_1060 dL_law_1061 ?_
  refine L_call (o := 0) (As := [.int (xs (i + 1))]) (rest := []) hA hE1 cvL_131 ⟨8, rfl, zs_8, _, rfl, rfl⟩ rfl rfl (Nat.le_of_ble_eq_true rfl) dL_law_1062 ?_
  refine L_a2 hA dL_law_1065 ?_
  refine L_arg (j := 1) (t := 1) hA (by omega) dL_law_1066 dL_law_1067 dL_law_1068 rfl dL_law_1069 dL_law_1070 ?_
  refine L_call (o := 20) (As := [.int (xs (i + 1))]) (rest := [.int x]) hA hE2 cvL_134 ⟨9, rfl, zs_9, _, rfl, rfl⟩ rfl rfl (Nat.le_of_ble_eq_true rfl) dL_law_1071 ?_
  exact L_eq hA dL_law_1074 (by decide) (kk yyB hR2)
set_option maxRecDepth 20000 in
theorem lc_29 (hA : lwA p s m meth c b L xs D ia a30 a31) (h5 : i + 5 ≤ L) (hR : RR s1) (kk : ∀ s2, RR s2 → LY l p e s m below meth c b D ia a30 a31 i 1376 [] s2) : LY l p e s m below meth c b D ia a30 a31 i 1079 [] s1 := by
  obtain ⟨x, yyA, yyB, hE1, hE2, hR2⟩ := op_ask (l := l) (ad := adz s.heap.size a30 a31) (D := D) (ia := ia) hR (xs (i + 1)) (xs (i + 2))
  refine L_a1 hA dL_law_1079 ?_
  refine L_arg (j := 1) (t := 1) hA (by omega) dL_law_1080 dL_law_1081 dL_law_1082 rfl dL_law_1083 dL_law_1084 ?_
  refine L_arg (j := 2) (t := 2) hA (by omega) dL_law_1085 dL_law_1086 dL_law_1087 rfl dL_law_1088 dL_law_1089 ?_
  refine L_call (o := 0) (As := [.int (xs (i + 1)), .int (xs (i + 2))]) (rest := []) hA hE1 cvL_135 ⟨8, rfl, zs_8, _, rfl, rfl⟩ rfl rfl (Nat.le_of_ble_eq_true rfl) dL_law_1090 ?_
  refine L_a2 hA dL_law_1093 ?_
  refine L_arg (j := 1) (t := 1) hA (by omega) dL_law_1094 dL_law_1095 dL_law_1096 rfl dL_law_1097 dL_law_1098 ?_
  refine L_arg (j := 2) (t := 2) hA (by omega) dL_law_1099 dL_law_1100 dL_law_1101 rfl dL_law_1102 dL_law_1103 ?_
  refine L_call (o := 20) (As := [.int (xs (i + 1)), .int (xs (i + 2))]) (rest := [.int x]) hA hE2 cvL_138 ⟨9, rfl, zs_9, _, rfl, rfl⟩ rfl rfl (Nat.le_of_ble_eq_true rfl) dL_law_1104 ?_
  exact L_eq hA dL_law_1107 (by decide) (kk yyB hR2)
set_option maxRecDepth 20000 in
theorem lc_30 (hA : lwA p s m meth c b L xs D ia a30 a31) (h5 : i + 5 ≤ L) (hR : RR s1) (kk : ∀ s2, RR s2 → LY l p e s m below meth c b D ia a30 a31 i 1376 [] s2) : LY l p e s m below meth c b D ia a30 a31 i 1112 [] s1 := by
  obtain ⟨x, yyA, yyB, hE1, hE2, hR2⟩ := op_drift (l := l) (ad := adz s.heap.size a30 a31) (D := D) (ia := ia) hR (xs (i + 1)) (xs (i + 2)) (xs (i + 3))
  refine L_a1 hA dL_law_1112 ?_
  refine L_arg (j := 1) (t := 1) hA (by omega) dL_law_1113 dL_law_1114 dL_law_1115 rfl dL_law_1116 dL_law_1117 ?_
  refine L_arg (j := 2) (t := 2) hA (by omega) dL_law_1118 dL_law_1119 dL_law_1120 rfl dL_law_1121 dL_law_1122 ?_
  refine L_arg (j := 3) (t := 3) hA (by omega) dL_law_1123 dL_law_1124 dL_law_1125 rfl dL_law_1126 dL_law_1127 ?_
  refine L_call (o := 0) (As := [.int (xs (i + 1)), .int (xs (i + 2)), .int (xs (i + 3))]) (rest := []) hA hE1 cvL_139 ⟨8, rfl, zs_8, _, rfl, rfl⟩ rfl rfl (Nat.le_of_ble_eq_true rfl) dL_law_1128 ?_
  refine L_a2 hA dL_law_1131 ?_
  refine L_arg (j := 1) (t := 1) hA (by omega) dL_law_1132 dL_law_1133 dL_law_1134 rfl dL_law_1135 dL_law_1136 ?_
  refine L_arg (j := 2) (t := 2) hA (by omega) dL_law_1137 dL_law_1138 dL_law_1139 rfl dL_law_1140 dL_law_1141 ?_
  refine L_arg (j := 3) (t := 3) hA (by omega) dL_law_1142 dL_law_1143 dL_law_1144 rfl dL_law_1145 dL_law_1146 ?_
  refine L_call (o := 20) (As := [.int (xs (i + 1)), .int (xs (i + 2)), .int (xs (i + 3))]) (rest := [.int x]) hA hE2 cvL_142 ⟨9, rfl, zs_9, _, rfl, rfl⟩ rfl rfl (Nat.le_of_ble_eq_true rfl) dL_law_1147 ?_
  exact L_eq hA dL_law_1150 (by decide) (kk yyB hR2)
set_option maxRecDepth 20000 in
theorem lc_31 (hA : lwA p s m meth c b L xs D ia a30 a31) (h5 : i + 5 ≤ L) (hR : RR s1) (kk : ∀ s2, RR s2 → LY l p e s m below meth c b D ia a30 a31 i 1376 [] s2) : LY l p e s m below meth c b D ia a30 a31 i 1155 [] s1 := by
  obtain ⟨x, yyA, yyB, hE1, hE2, hR2⟩ := op_keep (l := l) (ad := adz s.heap.size a30 a31) (D := D) (ia := ia) hR (xs (i + 1))
  refine L_a1 hA dL_law_1155 ?_
  refine L_arg (j := 1) (t := 1) hA (by omega) dL_law_1156 dL_law_1157 dL_law_1158 rfl dL_law_1159 dL_law_1160 ?_
  refine L_call (o := 0) (As := [.int (xs (i + 1))]) (rest := []) hA hE1 cvL_143 ⟨8, rfl, zs_8, _, rfl, rfl⟩ rfl rfl (Nat.le_of_ble_eq_true rfl) dL_law_1161 ?_
  refine L_a2 hA dL_law_1164 ?_
  refine L_arg (j := 1) (t := 1) hA (by omega) dL_law_1165 dL_law_1166 dL_law_1167 rfl dL_law_1168 dL_law_1169 ?_
  refine L_call (o := 20) (As := [.int (xs (i + 1))]) (rest := [.int x]) hA hE2 cvL_146 ⟨9, rfl, zs_9, _, rfl, rfl⟩ rfl rfl (Nat.le_of_ble_eq_true rfl) dL_law_1170 ?_
  exact L_eq hA dL_law_1173 (by decide) (kk yyB hR2)
set_option maxRecDepth 20000 in
theorem lc_32 (hA : lwA p s m meth c b L xs D ia a30 a31) (h5 : i + 5 ≤ L) (hR : RR s1) (kk : ∀ s2, RR s2 → LY l p e s m below meth c b D ia a30 a31 i 1376 [] s2) : LY l p e s m below meth c b D ia a30 a31 i 1178 [] s1 := by
  obtain ⟨x, yyA, yyB, hE1, hE2, hR2⟩ := op_back (l := l) (ad := adz s.heap.size a30 a31) (D := D) (ia := ia) hR (xs (i + 1))
  refine L_a1 hA dL_law_1178 ?_
  refine L_arg (j := 1) (t := 1) hA (by omega) dL_law_1179 dL_law_1180 dL_law_1181 rfl dL_law_1182 dL_law_1183 ?_
  refine L_call (o := 0) (As := [.int (xs (i + 1))]) (rest := []) hA hE1 cvL_147 ⟨8, rfl, zs_8, _, rfl, rfl⟩ rfl rfl (Nat.le_of_ble_eq_true rfl) dL_law_1184 ?_
  refine L_a2 hA dL_law_1187 ?_
  refine L_arg (j := 1) (t := 1) hA (by omega) dL_law_1188 dL_law_1189 dL_law_1190 rfl dL_law_1191 dL_law_1192 ?_
  refine L_call (o := 20) (As := [.int (xs (i + 1))]) (rest := [.int x]) hA hE2 cvL_150 ⟨9, rfl, zs_9, _, rfl, rfl⟩ rfl rfl (Nat.le_of_ble_eq_true rfl) dL_law_1193 ?_
  exact L_eq hA dL_law_1196 (by decide) (kk yyB hR2)
set_option maxRecDepth 20000 in
theorem lc_33 (hA : lwA p s m meth c b L xs D ia a30 a31) (h5 : i + 5 ≤ L) (hR : RR s1) (kk : ∀ s2, RR s2 → LY l p e s m below meth c b D ia a30 a31 i 1376 [] s2) : LY l p e s m below meth c b D ia a30 a31 i 1201 [] s1 := by
  obtain ⟨x, yyA, yyB, hE1, hE2, hR2⟩ := op_sheet (l := l) (ad := adz s.heap.size a30 a31) (D := D) (ia := ia) hR (xs (i + 1)) (xs (i + 2)) (xs (i + 3))
  refine L_a1 hA dL_law_1201 ?_
  refine L_arg (j := 1) (t := 1) hA (by omega) dL_law_1202 dL_law_1203 dL_law_1204 rfl dL_law_1205 dL_law_1206 ?_
  refine L_arg (j := 2) (t := 2) hA (by omega) dL_law_1207 dL_law_1208 dL_law_1209 rfl dL_law_1210 dL_law_1211 ?_
  refine L_arg (j := 3) (t := 3) hA (by omega) dL_law_1212 dL_law_1213 dL_law_1214 rfl dL_law_1215 dL_law_1216 ?_
  refine L_call (o := 0) (As := [.int (xs (i + 1)), .int (xs (i + 2)), .int (xs (i + 3))]) (rest := []) hA hE1 cvL_151 ⟨8, rfl, zs_8, _, rfl, rfl⟩ rfl rfl (Nat.le_of_ble_eq_true rfl) dL_law_1217 ?_
  refine L_a2 hA dL_law_1220 ?_
  refine L_arg (j := 1) (t := 1) hA (by omega) dL_law_1221 dL_law_1222 dL_law_1223 rfl dL_law_1224 dL_law_1225 ?_
  refine L_arg (j := 2) (t := 2) hA (by omega) dL_law_1226 dL_law_1227 dL_law_1228 rfl dL_law_1229 dL_law_1230 ?_
  refine L_arg (j := 3) (t := 3) hA (by omega) dL_law_1231 dL_law_1232 dL_law_1233 rfl dL_law_1234 dL_law_1235 ?_
  refine L_call (o := 20) (As := [.int (xs (i + 1)), .int (xs (i + 2)), .int (xs (i + 3))]) (rest := [.int x]) hA hE2 cvL_154 ⟨9, rfl, zs_9, _, rfl, rfl⟩ rfl rfl (Nat.le_of_ble_eq_true rfl) dL_law_1236 ?_
  exact L_eq hA dL_law_1239 (by decide) (kk yyB hR2)
set_option maxRecDepth 20000 in
theorem lc_34 (hA : lwA p s m meth c b L xs D ia a30 a31) (h5 : i + 5 ≤ L) (hR : RR s1) (kk : ∀ s2, RR s2 → LY l p e s m below meth c b D ia a30 a31 i 1376 [] s2) : LY l p e s m below meth c b D ia a30 a31 i 1244 [] s1 := by
  obtain ⟨x, yyA, yyB, hE1, hE2, hR2⟩ := op_lay (l := l) (ad := adz s.heap.size a30 a31) (D := D) (ia := ia) hR (xs (i + 1)) (xs (i + 2)) (xs (i + 3))
  refine L_a1 hA dL_law_1244 ?_
  refine L_arg (j := 1) (t := 1) hA (by omega) dL_law_1245 dL_law_1246 dL_law_1247 rfl dL_law_1248 dL_law_1249 ?_
  refine L_arg (j := 2) (t := 2) hA (by omega) dL_law_1250 dL_law_1251 dL_law_1252 rfl dL_law_1253 dL_law_1254 ?_
  refine L_arg (j := 3) (t := 3) hA (by omega) dL_law_1255 dL_law_1256 dL_law_1257 rfl dL_law_1258 dL_law_1259 ?_
  refine L_call (o := 0) (As := [.int (xs (i + 1)), .int (xs (i + 2)), .int (xs (i + 3))]) (rest := []) hA hE1 cvL_155 ⟨8, rfl, zs_8, _, rfl, rfl⟩ rfl rfl (Nat.le_of_ble_eq_true rfl) dL_law_1260 ?_
  refine L_a2 hA dL_law_1263 ?_
  refine L_arg (j := 1) (t := 1) hA (by omega) dL_law_1264 dL_law_1265 dL_law_1266 rfl dL_law_1267 dL_law_1268 ?_
  refine L_arg (j := 2) (t := 2) hA (by omega) dL_law_1269 dL_law_1270 dL_law_1271 rfl dL_law_1272 dL_law_1273 ?_
  refine L_arg (j := 3) (t := 3) hA (by omega) dL_law_1274 dL_law_1275 dL_law_1276 rfl dL_law_1277 dL_law_1278 ?_
  refine L_call (o := 20) (As := [.int (xs (i + 1)), .int (xs (i + 2)), .int (xs (i + 3))]) (rest := [.int x]) hA hE2 cvL_158 ⟨9, rfl, zs_9, _, rfl, rfl⟩ rfl rfl (Nat.le_of_ble_eq_true rfl) dL_law_1279 ?_
  exact L_eq hA dL_law_1282 (by decide) (kk yyB hR2)
set_option maxRecDepth 20000 in
theorem lc_35 (hA : lwA p s m meth c b L xs D ia a30 a31) (h5 : i + 5 ≤ L) (hR : RR s1) (kk : ∀ s2, RR s2 → LY l p e s m below meth c b D ia a30 a31 i 1376 [] s2) : LY l p e s m below meth c b D ia a30 a31 i 1287 [] s1 := by
  obtain ⟨x, yyA, yyB, hE1, hE2, hR2⟩ := op_read (l := l) (ad := adz s.heap.size a30 a31) (D := D) (ia := ia) hR (xs (i + 1)) (xs (i + 2)) (xs (i + 3)) (xs (i + 4))
  refine L_a1 hA dL_law_1287 ?_
  refine L_arg (j := 1) (t := 1) hA (by omega) dL_law_1288 dL_law_1289 dL_law_1290 rfl dL_law_1291 dL_law_1292 ?_
  refine L_arg (j := 2) (t := 2) hA (by omega) dL_law_1293 dL_law_1294 dL_law_1295 rfl dL_law_1296 dL_law_1297 ?_
  refine L_arg (j := 3) (t := 3) hA (by omega) dL_law_1298 dL_law_1299 dL_law_1300 rfl dL_law_1301 dL_law_1302 ?_
  refine L_arg (j := 4) (t := 4) hA (by omega) dL_law_1303 dL_law_1304 dL_law_1305 rfl dL_law_1306 dL_law_1307 ?_
  refine L_call (o := 0) (As := [.int (xs (i + 1)), .int (xs (i + 2)), .int (xs (i + 3)), .int (xs (i + 4))]) (rest := []) hA hE1 cvL_159 ⟨8, rfl, zs_8, _, rfl, rfl⟩ rfl rfl (Nat.le_of_ble_eq_true rfl) dL_law_1308 ?_
  refine L_a2 hA dL_law_1311 ?_
  refine L_arg (j := 1) (t := 1) hA (by omega) dL_law_1312 dL_law_1313 dL_law_1314 rfl dL_law_1315 dL_law_1316 ?_
  refine L_arg (j := 2) (t := 2) hA (by omega) dL_law_1317 dL_law_1318 dL_law_1319 rfl dL_law_1320 dL_law_1321 ?_
  refine L_arg (j := 3) (t := 3) hA (by omega) dL_law_1322 dL_law_1323 dL_law_1324 rfl dL_law_1325 dL_law_1326 ?_
  refine L_arg (j := 4) (t := 4) hA (by omega) dL_law_1327 dL_law_1328 dL_law_1329 rfl dL_law_1330 dL_law_1331 ?_
  refine L_call (o := 20) (As := [.int (xs (i + 1)), .int (xs (i + 2)), .int (xs (i + 3)), .int (xs (i + 4))]) (rest := [.int x]) hA hE2 cvL_163 ⟨9, rfl, zs_9, _, rfl, rfl⟩ rfl rfl (Nat.le_of_ble_eq_true rfl) dL_law_1332 ?_
  exact L_eq hA dL_law_1335 (by decide) (kk yyB hR2)
set_option maxRecDepth 20000 in
theorem lc_36 (hA : lwA p s m meth c b L xs D ia a30 a31) (h5 : i + 5 ≤ L) (hR : RR s1) (kk : ∀ s2, RR s2 → LY l p e s m below meth c b D ia a30 a31 i 1376 [] s2) : LY l p e s m below meth c b D ia a30 a31 i 1340 [] s1 := by
  obtain ⟨x, yyA, yyB, hE1, hE2, hR2⟩ := op_torn (l := l) (ad := adz s.heap.size a30 a31) (D := D) (ia := ia) hR
  refine L_a1 hA dL_law_1340 ?_
  refine L_call (o := 0) (As := []) (rest := []) hA hE1 cvL_164 ⟨8, rfl, zs_8, _, rfl, rfl⟩ rfl rfl (Nat.le_of_ble_eq_true rfl) dL_law_1341 ?_
  refine L_a2 hA dL_law_1344 ?_
  refine L_call (o := 20) (As := []) (rest := [.int x]) hA hE2 cvL_167 ⟨9, rfl, zs_9, _, rfl, rfl⟩ rfl rfl (Nat.le_of_ble_eq_true rfl) dL_law_1345 ?_
  exact L_eq hA dL_law_1348 (by decide) (kk yyB hR2)
set_option maxRecDepth 20000 in
theorem lc_37 (hA : lwA p s m meth c b L xs D ia a30 a31) (h5 : i + 5 ≤ L) (hR : RR s1) (kk : ∀ s2, RR s2 → LY l p e s m below meth c b D ia a30 a31 i 1376 [] s2) : LY l p e s m below meth c b D ia a30 a31 i 1353 [] s1 := by
  obtain ⟨x, yyA, yyB, hE1, hE2, hR2⟩ := op_count (l := l) (ad := adz s.heap.size a30 a31) (D := D) (ia := ia) hR (xs (i + 1))
  refine L_a1 hA dL_law_1353 ?_
  refine L_arg (j := 1) (t := 1) hA (by omega) dL_law_1354 dL_law_1355 dL_law_1356 rfl dL_law_1357 dL_law_1358 ?_
  refine L_call (o := 0) (As := [.int (xs (i + 1))]) (rest := []) hA hE1 cvL_168 ⟨8, rfl, zs_8, _, rfl, rfl⟩ rfl rfl (Nat.le_of_ble_eq_true rfl) dL_law_1359 ?_
  refine L_a2 hA dL_law_1362 ?_
  refine L_arg (j := 1) (t := 1) hA (by omega) dL_law_1363 dL_law_1364 dL_law_1365 rfl dL_law_1366 dL_law_1367 ?_
  refine L_call (o := 20) (As := [.int (xs (i + 1))]) (rest := [.int x]) hA hE2 cvL_171 ⟨9, rfl, zs_9, _, rfl, rfl⟩ rfl rfl (Nat.le_of_ble_eq_true rfl) dL_law_1368 ?_
  exact L_eq hA dL_law_1371 (by decide) (kk yyB hR2)
end LAWC
