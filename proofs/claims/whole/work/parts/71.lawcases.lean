theorem lc_0 {p : Program} {l : Launch} {e : Env} {s : State} {m : MethodId} {args : Array Value} {below : List Frame} {meth : Method} {c : Code} {b L : Nat} {xs : Nat → Int32} {g : GT} {ao : Nat} {cO : ClassId} {Q : State → Prop} {cells slots t : Nat} {k n : ST} {v : Int64} (hH : HL p s m args meth c b L xs g ao cO) (hL : L ≤ 3072) (ht : 6 * t + 6 ≤ L) (hcl : cells + 1 ≤ room_1.cells ∧ slots + 6 ≤ room_1.slots) (hr : Rel t k n) (ih : ∀ (k n : ST) (v : Int64), Rel (t + 1) k n → ZL p l e room_1 s m args below meth c g ao cO Q (cells + 1) (slots + 6) k n v 2327 [(4, .int (nI (6 * t))), (0, .ref b), (1, .ref (g.2.1 10)), (2, .ref (g.2.1 11)), (3, .ref ao)] []) : ZL p l e room_1 s m args below meth c g ao cO Q cells slots k n v 256 [(4, .int (nI (6 * t))), (0, .ref b), (1, .ref (g.2.1 10)), (2, .ref (g.2.1 11)), (3, .ref ao)] [] := by
  obtain ⟨r, k', n', hK, hM, hr2⟩ := pair_days t k n (xs (6 * t + 1)) (by omega) hr
  refine zl_aload_n hH dL_law_256 rfl 2 rfl ?_
  refine zl_aload_n hH dL_law_257 rfl 1 rfl ?_
  refine zl_iload hH dL_law_258 0 rfl ?_
  refine zl_iconst hH (x := 1) dL_law_260 rfl ?_
  refine zl_iadd hH dL_law_261 ?_
  refine zl_sld hH hL (6 * t + 1) (nI_add (6 * t) 1) (by omega) dL_law_262 ?_
  refine zl_callK hH hK (c_X11_days l g (xs (6 * t + 1))) mt_X11_days wd_453 wd_454 ci_10 wd_452 rfl ⟨Nat.le_of_ble_eq_true rfl, Nat.le_of_ble_eq_true rfl⟩ rfl rfl ⟨by omega, by omega⟩ (rest := []) rfl (Nat.le_of_ble_eq_true rfl) dL_law_263 ?_
  refine zl_aload_n hH dL_law_266 rfl 3 rfl ?_
  refine zl_aload_n hH dL_law_267 rfl 1 rfl ?_
  refine zl_iload hH dL_law_268 0 rfl ?_
  refine zl_iconst hH (x := 1) dL_law_270 rfl ?_
  refine zl_iadd hH dL_law_271 ?_
  refine zl_sld hH hL (6 * t + 1) (nI_add (6 * t) 1) (by omega) dL_law_272 ?_
  refine zl_callM hH hM (c_X12_days l g (xs (6 * t + 1))) mt_X12_days wd_1491 wd_1492 ci_11 wd_1490 rfl ⟨Nat.le_of_ble_eq_true rfl, Nat.le_of_ble_eq_true rfl⟩ rfl rfl ⟨by omega, by omega⟩ (rest := [.int r]) rfl (Nat.le_of_ble_eq_true rfl) dL_law_273 ?_
  refine zl_same hH (tgt := 2327) rfl dL_law_276 (by decide) ?_
  refine zl_widen (Nat.le_add_right _ 1) (Nat.le_add_right _ 6) ?_
  exact ih k' n' v hr2
theorem lc_1 {p : Program} {l : Launch} {e : Env} {s : State} {m : MethodId} {args : Array Value} {below : List Frame} {meth : Method} {c : Code} {b L : Nat} {xs : Nat → Int32} {g : GT} {ao : Nat} {cO : ClassId} {Q : State → Prop} {cells slots t : Nat} {k n : ST} {v : Int64} (hH : HL p s m args meth c b L xs g ao cO) (hL : L ≤ 3072) (ht : 6 * t + 6 ≤ L) (hcl : cells + 1 ≤ room_1.cells ∧ slots + 6 ≤ room_1.slots) (hr : Rel t k n) (ih : ∀ (k n : ST) (v : Int64), Rel (t + 1) k n → ZL p l e room_1 s m args below meth c g ao cO Q (cells + 1) (slots + 6) k n v 2327 [(4, .int (nI (6 * t))), (0, .ref b), (1, .ref (g.2.1 10)), (2, .ref (g.2.1 11)), (3, .ref ao)] []) : ZL p l e room_1 s m args below meth c g ao cO Q cells slots k n v 281 [(4, .int (nI (6 * t))), (0, .ref b), (1, .ref (g.2.1 10)), (2, .ref (g.2.1 11)), (3, .ref ao)] [] := by
  obtain ⟨r, k', n', hK, hM, hr2⟩ := pair_holder t k n (by omega) hr
  refine zl_aload_n hH dL_law_281 rfl 2 rfl ?_
  refine zl_callK hH hK (c_X11_holder l g) mt_X11_holder wd_457 wd_458 ci_10 wd_456 rfl ⟨Nat.le_of_ble_eq_true rfl, Nat.le_of_ble_eq_true rfl⟩ rfl rfl ⟨by omega, by omega⟩ (rest := []) rfl (Nat.le_of_ble_eq_true rfl) dL_law_282 ?_
  refine zl_aload_n hH dL_law_285 rfl 3 rfl ?_
  refine zl_callM hH hM (c_X12_holder l g) mt_X12_holder wd_1498 wd_1499 ci_11 wd_1497 rfl ⟨Nat.le_of_ble_eq_true rfl, Nat.le_of_ble_eq_true rfl⟩ rfl rfl ⟨by omega, by omega⟩ (rest := [.int r]) rfl (Nat.le_of_ble_eq_true rfl) dL_law_286 ?_
  refine zl_same hH (tgt := 2327) rfl dL_law_289 (by decide) ?_
  refine zl_widen (Nat.le_add_right _ 1) (Nat.le_add_right _ 6) ?_
  exact ih k' n' v hr2
theorem lc_2 {p : Program} {l : Launch} {e : Env} {s : State} {m : MethodId} {args : Array Value} {below : List Frame} {meth : Method} {c : Code} {b L : Nat} {xs : Nat → Int32} {g : GT} {ao : Nat} {cO : ClassId} {Q : State → Prop} {cells slots t : Nat} {k n : ST} {v : Int64} (hH : HL p s m args meth c b L xs g ao cO) (hL : L ≤ 3072) (ht : 6 * t + 6 ≤ L) (hcl : cells + 1 ≤ room_1.cells ∧ slots + 6 ≤ room_1.slots) (hr : Rel t k n) (ih : ∀ (k n : ST) (v : Int64), Rel (t + 1) k n → ZL p l e room_1 s m args below meth c g ao cO Q (cells + 1) (slots + 6) k n v 2327 [(4, .int (nI (6 * t))), (0, .ref b), (1, .ref (g.2.1 10)), (2, .ref (g.2.1 11)), (3, .ref ao)] []) : ZL p l e room_1 s m args below meth c g ao cO Q cells slots k n v 294 [(4, .int (nI (6 * t))), (0, .ref b), (1, .ref (g.2.1 10)), (2, .ref (g.2.1 11)), (3, .ref ao)] [] := by
  by_cases hz : xs (6 * t + 2) = 0
  · obtain ⟨r, k', n', hK, hM, hr2⟩ := pair_key t k n (xs (6 * t + 1)) false (by omega) hr
    refine zl_aload_n hH dL_law_294 rfl 2 rfl ?_
    refine zl_aload_n hH dL_law_295 rfl 1 rfl ?_
    refine zl_iload hH dL_law_296 0 rfl ?_
    refine zl_iconst hH (x := 1) dL_law_298 rfl ?_
    refine zl_iadd hH dL_law_299 ?_
    refine zl_sld hH hL (6 * t + 1) (nI_add (6 * t) 1) (by omega) dL_law_300 ?_
    refine zl_aload_n hH dL_law_301 rfl 1 rfl ?_
    refine zl_iload hH dL_law_302 0 rfl ?_
    refine zl_iconst hH (x := 2) dL_law_304 rfl ?_
    refine zl_iadd hH dL_law_305 ?_
    refine zl_sld hH hL (6 * t + 2) (nI_add (6 * t) 2) (by omega) dL_law_306 ?_
    refine zl_if0 hH (tgt := 314) hz dL_law_307 (by decide) ?_
    refine zl_iconst hH (x := 0) dL_law_314 rfl ?_
    refine zl_callK hH hK (c_X11_key l g (xs (6 * t + 1)) false) mt_X11_key wd_461 wd_462 ci_10 wd_460 rfl ⟨Nat.le_of_ble_eq_true rfl, Nat.le_of_ble_eq_true rfl⟩ rfl rfl ⟨by omega, by omega⟩ (rest := []) rfl (Nat.le_of_ble_eq_true rfl) dL_law_315 ?_
    refine zl_aload_n hH dL_law_318 rfl 3 rfl ?_
    refine zl_aload_n hH dL_law_319 rfl 1 rfl ?_
    refine zl_iload hH dL_law_320 0 rfl ?_
    refine zl_iconst hH (x := 1) dL_law_322 rfl ?_
    refine zl_iadd hH dL_law_323 ?_
    refine zl_sld hH hL (6 * t + 1) (nI_add (6 * t) 1) (by omega) dL_law_324 ?_
    refine zl_aload_n hH dL_law_325 rfl 1 rfl ?_
    refine zl_iload hH dL_law_326 0 rfl ?_
    refine zl_iconst hH (x := 2) dL_law_328 rfl ?_
    refine zl_iadd hH dL_law_329 ?_
    refine zl_sld hH hL (6 * t + 2) (nI_add (6 * t) 2) (by omega) dL_law_330 ?_
    refine zl_if0 hH (tgt := 338) hz dL_law_331 (by decide) ?_
    refine zl_iconst hH (x := 0) dL_law_338 rfl ?_
    refine zl_callM hH hM (c_X12_key l g (xs (6 * t + 1)) false) mt_X12_key wd_1502 wd_1503 ci_11 wd_1501 rfl ⟨Nat.le_of_ble_eq_true rfl, Nat.le_of_ble_eq_true rfl⟩ rfl rfl ⟨by omega, by omega⟩ (rest := [.int r]) rfl (Nat.le_of_ble_eq_true rfl) dL_law_339 ?_
    refine zl_same hH (tgt := 2327) rfl dL_law_342 (by decide) ?_
    refine zl_widen (Nat.le_add_right _ 1) (Nat.le_add_right _ 6) ?_
    exact ih k' n' v hr2
  · obtain ⟨r, k', n', hK, hM, hr2⟩ := pair_key t k n (xs (6 * t + 1)) true (by omega) hr
    refine zl_aload_n hH dL_law_294 rfl 2 rfl ?_
    refine zl_aload_n hH dL_law_295 rfl 1 rfl ?_
    refine zl_iload hH dL_law_296 0 rfl ?_
    refine zl_iconst hH (x := 1) dL_law_298 rfl ?_
    refine zl_iadd hH dL_law_299 ?_
    refine zl_sld hH hL (6 * t + 1) (nI_add (6 * t) 1) (by omega) dL_law_300 ?_
    refine zl_aload_n hH dL_law_301 rfl 1 rfl ?_
    refine zl_iload hH dL_law_302 0 rfl ?_
    refine zl_iconst hH (x := 2) dL_law_304 rfl ?_
    refine zl_iadd hH dL_law_305 ?_
    refine zl_sld hH hL (6 * t + 2) (nI_add (6 * t) 2) (by omega) dL_law_306 ?_
    refine zl_if1 hH (tgt := 314) hz dL_law_307 (by decide) ?_
    refine zl_iconst hH (x := 1) dL_law_310 rfl ?_
    refine zl_goto hH (tgt := 315) dL_law_311 (by decide) ?_
    refine zl_callK hH hK (c_X11_key l g (xs (6 * t + 1)) true) mt_X11_key wd_461 wd_462 ci_10 wd_460 rfl ⟨Nat.le_of_ble_eq_true rfl, Nat.le_of_ble_eq_true rfl⟩ rfl rfl ⟨by omega, by omega⟩ (rest := []) rfl (Nat.le_of_ble_eq_true rfl) dL_law_315 ?_
    refine zl_aload_n hH dL_law_318 rfl 3 rfl ?_
    refine zl_aload_n hH dL_law_319 rfl 1 rfl ?_
    refine zl_iload hH dL_law_320 0 rfl ?_
    refine zl_iconst hH (x := 1) dL_law_322 rfl ?_
    refine zl_iadd hH dL_law_323 ?_
    refine zl_sld hH hL (6 * t + 1) (nI_add (6 * t) 1) (by omega) dL_law_324 ?_
    refine zl_aload_n hH dL_law_325 rfl 1 rfl ?_
    refine zl_iload hH dL_law_326 0 rfl ?_
    refine zl_iconst hH (x := 2) dL_law_328 rfl ?_
    refine zl_iadd hH dL_law_329 ?_
    refine zl_sld hH hL (6 * t + 2) (nI_add (6 * t) 2) (by omega) dL_law_330 ?_
    refine zl_if1 hH (tgt := 338) hz dL_law_331 (by decide) ?_
    refine zl_iconst hH (x := 1) dL_law_334 rfl ?_
    refine zl_goto hH (tgt := 339) dL_law_335 (by decide) ?_
    refine zl_callM hH hM (c_X12_key l g (xs (6 * t + 1)) true) mt_X12_key wd_1502 wd_1503 ci_11 wd_1501 rfl ⟨Nat.le_of_ble_eq_true rfl, Nat.le_of_ble_eq_true rfl⟩ rfl rfl ⟨by omega, by omega⟩ (rest := [.int r]) rfl (Nat.le_of_ble_eq_true rfl) dL_law_339 ?_
    refine zl_same hH (tgt := 2327) rfl dL_law_342 (by decide) ?_
    refine zl_widen (Nat.le_add_right _ 1) (Nat.le_add_right _ 6) ?_
    exact ih k' n' v hr2
theorem lc_3 {p : Program} {l : Launch} {e : Env} {s : State} {m : MethodId} {args : Array Value} {below : List Frame} {meth : Method} {c : Code} {b L : Nat} {xs : Nat → Int32} {g : GT} {ao : Nat} {cO : ClassId} {Q : State → Prop} {cells slots t : Nat} {k n : ST} {v : Int64} (hH : HL p s m args meth c b L xs g ao cO) (hL : L ≤ 3072) (ht : 6 * t + 6 ≤ L) (hcl : cells + 1 ≤ room_1.cells ∧ slots + 6 ≤ room_1.slots) (hr : Rel t k n) (ih : ∀ (k n : ST) (v : Int64), Rel (t + 1) k n → ZL p l e room_1 s m args below meth c g ao cO Q (cells + 1) (slots + 6) k n v 2327 [(4, .int (nI (6 * t))), (0, .ref b), (1, .ref (g.2.1 10)), (2, .ref (g.2.1 11)), (3, .ref ao)] []) : ZL p l e room_1 s m args below meth c g ao cO Q cells slots k n v 347 [(4, .int (nI (6 * t))), (0, .ref b), (1, .ref (g.2.1 10)), (2, .ref (g.2.1 11)), (3, .ref ao)] [] := by
  obtain ⟨r, k', n', hK, hM, hr2⟩ := pair_feed t k n (xs (6 * t + 1)) (xs (6 * t + 2)) (xs (6 * t + 3)) (xs (6 * t + 4)) (xs (6 * t + 5)) (by omega) hr
  refine zl_aload_n hH dL_law_347 rfl 2 rfl ?_
  refine zl_aload_n hH dL_law_348 rfl 1 rfl ?_
  refine zl_iload hH dL_law_349 0 rfl ?_
  refine zl_iconst hH (x := 1) dL_law_351 rfl ?_
  refine zl_iadd hH dL_law_352 ?_
  refine zl_sld hH hL (6 * t + 1) (nI_add (6 * t) 1) (by omega) dL_law_353 ?_
  refine zl_aload_n hH dL_law_354 rfl 1 rfl ?_
  refine zl_iload hH dL_law_355 0 rfl ?_
  refine zl_iconst hH (x := 2) dL_law_357 rfl ?_
  refine zl_iadd hH dL_law_358 ?_
  refine zl_sld hH hL (6 * t + 2) (nI_add (6 * t) 2) (by omega) dL_law_359 ?_
  refine zl_aload_n hH dL_law_360 rfl 1 rfl ?_
  refine zl_iload hH dL_law_361 0 rfl ?_
  refine zl_iconst hH (x := 3) dL_law_363 rfl ?_
  refine zl_iadd hH dL_law_364 ?_
  refine zl_sld hH hL (6 * t + 3) (nI_add (6 * t) 3) (by omega) dL_law_365 ?_
  refine zl_aload_n hH dL_law_366 rfl 1 rfl ?_
  refine zl_iload hH dL_law_367 0 rfl ?_
  refine zl_iconst hH (x := 4) dL_law_369 rfl ?_
  refine zl_iadd hH dL_law_370 ?_
  refine zl_sld hH hL (6 * t + 4) (nI_add (6 * t) 4) (by omega) dL_law_371 ?_
  refine zl_aload_n hH dL_law_372 rfl 1 rfl ?_
  refine zl_iload hH dL_law_373 0 rfl ?_
  refine zl_iconst hH (x := 5) dL_law_375 rfl ?_
  refine zl_iadd hH dL_law_376 ?_
  refine zl_sld hH hL (6 * t + 5) (nI_add (6 * t) 5) (by omega) dL_law_377 ?_
  refine zl_callK hH hK (c_X11_feed l g (xs (6 * t + 1)) (xs (6 * t + 2)) (xs (6 * t + 3)) (xs (6 * t + 4)) (xs (6 * t + 5))) mt_X11_feed wd_472 wd_473 ci_10 wd_471 rfl ⟨Nat.le_of_ble_eq_true rfl, Nat.le_of_ble_eq_true rfl⟩ rfl rfl ⟨by omega, by omega⟩ (rest := []) rfl (Nat.le_of_ble_eq_true rfl) dL_law_378 ?_
  refine zl_aload_n hH dL_law_381 rfl 3 rfl ?_
  refine zl_aload_n hH dL_law_382 rfl 1 rfl ?_
  refine zl_iload hH dL_law_383 0 rfl ?_
  refine zl_iconst hH (x := 1) dL_law_385 rfl ?_
  refine zl_iadd hH dL_law_386 ?_
  refine zl_sld hH hL (6 * t + 1) (nI_add (6 * t) 1) (by omega) dL_law_387 ?_
  refine zl_aload_n hH dL_law_388 rfl 1 rfl ?_
  refine zl_iload hH dL_law_389 0 rfl ?_
  refine zl_iconst hH (x := 2) dL_law_391 rfl ?_
  refine zl_iadd hH dL_law_392 ?_
  refine zl_sld hH hL (6 * t + 2) (nI_add (6 * t) 2) (by omega) dL_law_393 ?_
  refine zl_aload_n hH dL_law_394 rfl 1 rfl ?_
  refine zl_iload hH dL_law_395 0 rfl ?_
  refine zl_iconst hH (x := 3) dL_law_397 rfl ?_
  refine zl_iadd hH dL_law_398 ?_
  refine zl_sld hH hL (6 * t + 3) (nI_add (6 * t) 3) (by omega) dL_law_399 ?_
  refine zl_aload_n hH dL_law_400 rfl 1 rfl ?_
  refine zl_iload hH dL_law_401 0 rfl ?_
  refine zl_iconst hH (x := 4) dL_law_403 rfl ?_
  refine zl_iadd hH dL_law_404 ?_
  refine zl_sld hH hL (6 * t + 4) (nI_add (6 * t) 4) (by omega) dL_law_405 ?_
  refine zl_aload_n hH dL_law_406 rfl 1 rfl ?_
  refine zl_iload hH dL_law_407 0 rfl ?_
  refine zl_iconst hH (x := 5) dL_law_409 rfl ?_
  refine zl_iadd hH dL_law_410 ?_
  refine zl_sld hH hL (6 * t + 5) (nI_add (6 * t) 5) (by omega) dL_law_411 ?_
  refine zl_callM hH hM (c_X12_feed l g (xs (6 * t + 1)) (xs (6 * t + 2)) (xs (6 * t + 3)) (xs (6 * t + 4)) (xs (6 * t + 5))) mt_X12_feed wd_1510 wd_1511 ci_11 wd_1509 rfl ⟨Nat.le_of_ble_eq_true rfl, Nat.le_of_ble_eq_true rfl⟩ rfl rfl ⟨by omega, by omega⟩ (rest := [.int r]) rfl (Nat.le_of_ble_eq_true rfl) dL_law_412 ?_
  refine zl_same hH (tgt := 2327) rfl dL_law_415 (by decide) ?_
  refine zl_widen (Nat.le_add_right _ 1) (Nat.le_add_right _ 6) ?_
  exact ih k' n' v hr2
theorem lc_4 {p : Program} {l : Launch} {e : Env} {s : State} {m : MethodId} {args : Array Value} {below : List Frame} {meth : Method} {c : Code} {b L : Nat} {xs : Nat → Int32} {g : GT} {ao : Nat} {cO : ClassId} {Q : State → Prop} {cells slots t : Nat} {k n : ST} {v : Int64} (hH : HL p s m args meth c b L xs g ao cO) (hL : L ≤ 3072) (ht : 6 * t + 6 ≤ L) (hcl : cells + 1 ≤ room_1.cells ∧ slots + 6 ≤ room_1.slots) (hr : Rel t k n) (ih : ∀ (k n : ST) (v : Int64), Rel (t + 1) k n → ZL p l e room_1 s m args below meth c g ao cO Q (cells + 1) (slots + 6) k n v 2327 [(4, .int (nI (6 * t))), (0, .ref b), (1, .ref (g.2.1 10)), (2, .ref (g.2.1 11)), (3, .ref ao)] []) : ZL p l e room_1 s m args below meth c g ao cO Q cells slots k n v 420 [(4, .int (nI (6 * t))), (0, .ref b), (1, .ref (g.2.1 10)), (2, .ref (g.2.1 11)), (3, .ref ao)] [] := by
  obtain ⟨r, k', n', hK, hM, hr2⟩ := pair_end t k n (xs (6 * t + 1)) (by omega) hr
  refine zl_aload_n hH dL_law_420 rfl 2 rfl ?_
  refine zl_aload_n hH dL_law_421 rfl 1 rfl ?_
  refine zl_iload hH dL_law_422 0 rfl ?_
  refine zl_iconst hH (x := 1) dL_law_424 rfl ?_
  refine zl_iadd hH dL_law_425 ?_
  refine zl_sld hH hL (6 * t + 1) (nI_add (6 * t) 1) (by omega) dL_law_426 ?_
  refine zl_callK hH hK (c_X11_end l g (xs (6 * t + 1))) mt_X11_end wd_483 wd_484 ci_10 wd_482 rfl ⟨Nat.le_of_ble_eq_true rfl, Nat.le_of_ble_eq_true rfl⟩ rfl rfl ⟨by omega, by omega⟩ (rest := []) rfl (Nat.le_of_ble_eq_true rfl) dL_law_427 ?_
  refine zl_aload_n hH dL_law_430 rfl 3 rfl ?_
  refine zl_aload_n hH dL_law_431 rfl 1 rfl ?_
  refine zl_iload hH dL_law_432 0 rfl ?_
  refine zl_iconst hH (x := 1) dL_law_434 rfl ?_
  refine zl_iadd hH dL_law_435 ?_
  refine zl_sld hH hL (6 * t + 1) (nI_add (6 * t) 1) (by omega) dL_law_436 ?_
  refine zl_callM hH hM (c_X12_end l g (xs (6 * t + 1))) mt_X12_end wd_1521 wd_1522 ci_11 wd_1520 rfl ⟨Nat.le_of_ble_eq_true rfl, Nat.le_of_ble_eq_true rfl⟩ rfl rfl ⟨by omega, by omega⟩ (rest := [.int (b2i r)]) rfl (Nat.le_of_ble_eq_true rfl) dL_law_437 ?_
  refine zl_same hH (tgt := 2327) rfl dL_law_440 (by decide) ?_
  refine zl_widen (Nat.le_add_right _ 1) (Nat.le_add_right _ 6) ?_
  exact ih k' n' v hr2
theorem lc_5 {p : Program} {l : Launch} {e : Env} {s : State} {m : MethodId} {args : Array Value} {below : List Frame} {meth : Method} {c : Code} {b L : Nat} {xs : Nat → Int32} {g : GT} {ao : Nat} {cO : ClassId} {Q : State → Prop} {cells slots t : Nat} {k n : ST} {v : Int64} (hH : HL p s m args meth c b L xs g ao cO) (hL : L ≤ 3072) (ht : 6 * t + 6 ≤ L) (hcl : cells + 1 ≤ room_1.cells ∧ slots + 6 ≤ room_1.slots) (hr : Rel t k n) (ih : ∀ (k n : ST) (v : Int64), Rel (t + 1) k n → ZL p l e room_1 s m args below meth c g ao cO Q (cells + 1) (slots + 6) k n v 2327 [(4, .int (nI (6 * t))), (0, .ref b), (1, .ref (g.2.1 10)), (2, .ref (g.2.1 11)), (3, .ref ao)] []) : ZL p l e room_1 s m args below meth c g ao cO Q cells slots k n v 445 [(4, .int (nI (6 * t))), (0, .ref b), (1, .ref (g.2.1 10)), (2, .ref (g.2.1 11)), (3, .ref ao)] [] := by
  obtain ⟨r, k', n', hK, hM, hr2⟩ := pair_make t k n (xs (6 * t + 1)) (by omega) hr
  refine zl_aload_n hH dL_law_445 rfl 2 rfl ?_
  refine zl_aload_n hH dL_law_446 rfl 1 rfl ?_
  refine zl_iload hH dL_law_447 0 rfl ?_
  refine zl_iconst hH (x := 1) dL_law_449 rfl ?_
  refine zl_iadd hH dL_law_450 ?_
  refine zl_sld hH hL (6 * t + 1) (nI_add (6 * t) 1) (by omega) dL_law_451 ?_
  refine zl_callK hH hK (c_X11_make l g (xs (6 * t + 1))) mt_X11_make wd_487 wd_488 ci_10 wd_486 rfl ⟨Nat.le_of_ble_eq_true rfl, Nat.le_of_ble_eq_true rfl⟩ rfl rfl ⟨by omega, by omega⟩ (rest := []) rfl (Nat.le_of_ble_eq_true rfl) dL_law_452 ?_
  refine zl_aload_n hH dL_law_455 rfl 3 rfl ?_
  refine zl_aload_n hH dL_law_456 rfl 1 rfl ?_
  refine zl_iload hH dL_law_457 0 rfl ?_
  refine zl_iconst hH (x := 1) dL_law_459 rfl ?_
  refine zl_iadd hH dL_law_460 ?_
  refine zl_sld hH hL (6 * t + 1) (nI_add (6 * t) 1) (by omega) dL_law_461 ?_
  refine zl_callM hH hM (c_X12_make l g (xs (6 * t + 1))) mt_X12_make wd_1525 wd_1526 ci_11 wd_1524 rfl ⟨Nat.le_of_ble_eq_true rfl, Nat.le_of_ble_eq_true rfl⟩ rfl rfl ⟨by omega, by omega⟩ (rest := [.int r]) rfl (Nat.le_of_ble_eq_true rfl) dL_law_462 ?_
  refine zl_same hH (tgt := 2327) rfl dL_law_465 (by decide) ?_
  refine zl_widen (Nat.le_add_right _ 1) (Nat.le_add_right _ 6) ?_
  exact ih k' n' v hr2
theorem lc_7 {p : Program} {l : Launch} {e : Env} {s : State} {m : MethodId} {args : Array Value} {below : List Frame} {meth : Method} {c : Code} {b L : Nat} {xs : Nat → Int32} {g : GT} {ao : Nat} {cO : ClassId} {Q : State → Prop} {cells slots t : Nat} {k n : ST} {v : Int64} (hH : HL p s m args meth c b L xs g ao cO) (hL : L ≤ 3072) (ht : 6 * t + 6 ≤ L) (hcl : cells + 1 ≤ room_1.cells ∧ slots + 6 ≤ room_1.slots) (hr : Rel t k n) (ih : ∀ (k n : ST) (v : Int64), Rel (t + 1) k n → ZL p l e room_1 s m args below meth c g ao cO Q (cells + 1) (slots + 6) k n v 2327 [(4, .int (nI (6 * t))), (0, .ref b), (1, .ref (g.2.1 10)), (2, .ref (g.2.1 11)), (3, .ref ao)] []) : ZL p l e room_1 s m args below meth c g ao cO Q cells slots k n v 526 [(4, .int (nI (6 * t))), (0, .ref b), (1, .ref (g.2.1 10)), (2, .ref (g.2.1 11)), (3, .ref ao)] [] := by
  obtain ⟨r, k', n', hK, hM, hr2⟩ := pair_told t k n (xs (6 * t + 1)) (xs (6 * t + 2)) (by omega) hr
  refine zl_aload_n hH dL_law_526 rfl 2 rfl ?_
  refine zl_aload_n hH dL_law_527 rfl 1 rfl ?_
  refine zl_iload hH dL_law_528 0 rfl ?_
  refine zl_iconst hH (x := 1) dL_law_530 rfl ?_
  refine zl_iadd hH dL_law_531 ?_
  refine zl_sld hH hL (6 * t + 1) (nI_add (6 * t) 1) (by omega) dL_law_532 ?_
  refine zl_aload_n hH dL_law_533 rfl 1 rfl ?_
  refine zl_iload hH dL_law_534 0 rfl ?_
  refine zl_iconst hH (x := 2) dL_law_536 rfl ?_
  refine zl_iadd hH dL_law_537 ?_
  refine zl_sld hH hL (6 * t + 2) (nI_add (6 * t) 2) (by omega) dL_law_538 ?_
  refine zl_callK hH hK (c_X11_told l g (xs (6 * t + 1)) (xs (6 * t + 2))) mt_X11_told wd_506 wd_507 ci_10 wd_505 rfl ⟨Nat.le_of_ble_eq_true rfl, Nat.le_of_ble_eq_true rfl⟩ rfl rfl ⟨by omega, by omega⟩ (rest := []) rfl (Nat.le_of_ble_eq_true rfl) dL_law_539 ?_
  refine zl_aload_n hH dL_law_542 rfl 3 rfl ?_
  refine zl_aload_n hH dL_law_543 rfl 1 rfl ?_
  refine zl_iload hH dL_law_544 0 rfl ?_
  refine zl_iconst hH (x := 1) dL_law_546 rfl ?_
  refine zl_iadd hH dL_law_547 ?_
  refine zl_sld hH hL (6 * t + 1) (nI_add (6 * t) 1) (by omega) dL_law_548 ?_
  refine zl_aload_n hH dL_law_549 rfl 1 rfl ?_
  refine zl_iload hH dL_law_550 0 rfl ?_
  refine zl_iconst hH (x := 2) dL_law_552 rfl ?_
  refine zl_iadd hH dL_law_553 ?_
  refine zl_sld hH hL (6 * t + 2) (nI_add (6 * t) 2) (by omega) dL_law_554 ?_
  refine zl_callM hH hM (c_X12_told l g (xs (6 * t + 1)) (xs (6 * t + 2))) mt_X12_told wd_1848 wd_1849 ci_11 wd_1847 rfl ⟨Nat.le_of_ble_eq_true rfl, Nat.le_of_ble_eq_true rfl⟩ rfl rfl ⟨by omega, by omega⟩ (rest := [.int r]) rfl (Nat.le_of_ble_eq_true rfl) dL_law_555 ?_
  refine zl_same hH (tgt := 2327) rfl dL_law_558 (by decide) ?_
  refine zl_widen (Nat.le_add_right _ 1) (Nat.le_add_right _ 6) ?_
  exact ih k' n' v hr2
theorem lc_8 {p : Program} {l : Launch} {e : Env} {s : State} {m : MethodId} {args : Array Value} {below : List Frame} {meth : Method} {c : Code} {b L : Nat} {xs : Nat → Int32} {g : GT} {ao : Nat} {cO : ClassId} {Q : State → Prop} {cells slots t : Nat} {k n : ST} {v : Int64} (hH : HL p s m args meth c b L xs g ao cO) (hL : L ≤ 3072) (ht : 6 * t + 6 ≤ L) (hcl : cells + 1 ≤ room_1.cells ∧ slots + 6 ≤ room_1.slots) (hr : Rel t k n) (ih : ∀ (k n : ST) (v : Int64), Rel (t + 1) k n → ZL p l e room_1 s m args below meth c g ao cO Q (cells + 1) (slots + 6) k n v 2327 [(4, .int (nI (6 * t))), (0, .ref b), (1, .ref (g.2.1 10)), (2, .ref (g.2.1 11)), (3, .ref ao)] []) : ZL p l e room_1 s m args below meth c g ao cO Q cells slots k n v 563 [(4, .int (nI (6 * t))), (0, .ref b), (1, .ref (g.2.1 10)), (2, .ref (g.2.1 11)), (3, .ref ao)] [] := by
  obtain ⟨r, k', n', hK, hM, hr2⟩ := pair_give t k n (xs (6 * t + 1)) (xs (6 * t + 2)) (by omega) hr
  refine zl_aload_n hH dL_law_563 rfl 2 rfl ?_
  refine zl_aload_n hH dL_law_564 rfl 1 rfl ?_
  refine zl_iload hH dL_law_565 0 rfl ?_
  refine zl_iconst hH (x := 1) dL_law_567 rfl ?_
  refine zl_iadd hH dL_law_568 ?_
  refine zl_sld hH hL (6 * t + 1) (nI_add (6 * t) 1) (by omega) dL_law_569 ?_
  refine zl_aload_n hH dL_law_570 rfl 1 rfl ?_
  refine zl_iload hH dL_law_571 0 rfl ?_
  refine zl_iconst hH (x := 2) dL_law_573 rfl ?_
  refine zl_iadd hH dL_law_574 ?_
  refine zl_sld hH hL (6 * t + 2) (nI_add (6 * t) 2) (by omega) dL_law_575 ?_
  refine zl_callK hH hK (c_X11_give l g (xs (6 * t + 1)) (xs (6 * t + 2))) mt_X11_give wd_526 wd_527 ci_10 wd_525 rfl ⟨Nat.le_of_ble_eq_true rfl, Nat.le_of_ble_eq_true rfl⟩ rfl rfl ⟨by omega, by omega⟩ (rest := []) rfl (Nat.le_of_ble_eq_true rfl) dL_law_576 ?_
  refine zl_aload_n hH dL_law_579 rfl 3 rfl ?_
  refine zl_aload_n hH dL_law_580 rfl 1 rfl ?_
  refine zl_iload hH dL_law_581 0 rfl ?_
  refine zl_iconst hH (x := 1) dL_law_583 rfl ?_
  refine zl_iadd hH dL_law_584 ?_
  refine zl_sld hH hL (6 * t + 1) (nI_add (6 * t) 1) (by omega) dL_law_585 ?_
  refine zl_aload_n hH dL_law_586 rfl 1 rfl ?_
  refine zl_iload hH dL_law_587 0 rfl ?_
  refine zl_iconst hH (x := 2) dL_law_589 rfl ?_
  refine zl_iadd hH dL_law_590 ?_
  refine zl_sld hH hL (6 * t + 2) (nI_add (6 * t) 2) (by omega) dL_law_591 ?_
  refine zl_callM hH hM (c_X12_give l g (xs (6 * t + 1)) (xs (6 * t + 2))) mt_X12_give wd_1543 wd_1544 ci_11 wd_1542 rfl ⟨Nat.le_of_ble_eq_true rfl, Nat.le_of_ble_eq_true rfl⟩ rfl rfl ⟨by omega, by omega⟩ (rest := [.int (b2i r)]) rfl (Nat.le_of_ble_eq_true rfl) dL_law_592 ?_
  refine zl_same hH (tgt := 2327) rfl dL_law_595 (by decide) ?_
  refine zl_widen (Nat.le_add_right _ 1) (Nat.le_add_right _ 6) ?_
  exact ih k' n' v hr2
theorem lc_9 {p : Program} {l : Launch} {e : Env} {s : State} {m : MethodId} {args : Array Value} {below : List Frame} {meth : Method} {c : Code} {b L : Nat} {xs : Nat → Int32} {g : GT} {ao : Nat} {cO : ClassId} {Q : State → Prop} {cells slots t : Nat} {k n : ST} {v : Int64} (hH : HL p s m args meth c b L xs g ao cO) (hL : L ≤ 3072) (ht : 6 * t + 6 ≤ L) (hcl : cells + 1 ≤ room_1.cells ∧ slots + 6 ≤ room_1.slots) (hr : Rel t k n) (ih : ∀ (k n : ST) (v : Int64), Rel (t + 1) k n → ZL p l e room_1 s m args below meth c g ao cO Q (cells + 1) (slots + 6) k n v 2327 [(4, .int (nI (6 * t))), (0, .ref b), (1, .ref (g.2.1 10)), (2, .ref (g.2.1 11)), (3, .ref ao)] []) : ZL p l e room_1 s m args below meth c g ao cO Q cells slots k n v 600 [(4, .int (nI (6 * t))), (0, .ref b), (1, .ref (g.2.1 10)), (2, .ref (g.2.1 11)), (3, .ref ao)] [] := by
  obtain ⟨r, k', n', hK, hM, hr2⟩ := pair_take t k n (xs (6 * t + 1)) (xs (6 * t + 2)) (by omega) hr
  refine zl_aload_n hH dL_law_600 rfl 2 rfl ?_
  refine zl_aload_n hH dL_law_601 rfl 1 rfl ?_
  refine zl_iload hH dL_law_602 0 rfl ?_
  refine zl_iconst hH (x := 1) dL_law_604 rfl ?_
  refine zl_iadd hH dL_law_605 ?_
  refine zl_sld hH hL (6 * t + 1) (nI_add (6 * t) 1) (by omega) dL_law_606 ?_
  refine zl_aload_n hH dL_law_607 rfl 1 rfl ?_
  refine zl_iload hH dL_law_608 0 rfl ?_
  refine zl_iconst hH (x := 2) dL_law_610 rfl ?_
  refine zl_iadd hH dL_law_611 ?_
  refine zl_sld hH hL (6 * t + 2) (nI_add (6 * t) 2) (by omega) dL_law_612 ?_
  refine zl_callK hH hK (c_X11_take l g (xs (6 * t + 1)) (xs (6 * t + 2))) mt_X11_take wd_545 wd_546 ci_10 wd_544 rfl ⟨Nat.le_of_ble_eq_true rfl, Nat.le_of_ble_eq_true rfl⟩ rfl rfl ⟨by omega, by omega⟩ (rest := []) rfl (Nat.le_of_ble_eq_true rfl) dL_law_613 ?_
  refine zl_aload_n hH dL_law_616 rfl 3 rfl ?_
  refine zl_aload_n hH dL_law_617 rfl 1 rfl ?_
  refine zl_iload hH dL_law_618 0 rfl ?_
  refine zl_iconst hH (x := 1) dL_law_620 rfl ?_
  refine zl_iadd hH dL_law_621 ?_
  refine zl_sld hH hL (6 * t + 1) (nI_add (6 * t) 1) (by omega) dL_law_622 ?_
  refine zl_aload_n hH dL_law_623 rfl 1 rfl ?_
  refine zl_iload hH dL_law_624 0 rfl ?_
  refine zl_iconst hH (x := 2) dL_law_626 rfl ?_
  refine zl_iadd hH dL_law_627 ?_
  refine zl_sld hH hL (6 * t + 2) (nI_add (6 * t) 2) (by omega) dL_law_628 ?_
  refine zl_callM hH hM (c_X12_take l g (xs (6 * t + 1)) (xs (6 * t + 2))) mt_X12_take wd_1559 wd_1560 ci_11 wd_1558 rfl ⟨Nat.le_of_ble_eq_true rfl, Nat.le_of_ble_eq_true rfl⟩ rfl rfl ⟨by omega, by omega⟩ (rest := [.int (b2i r)]) rfl (Nat.le_of_ble_eq_true rfl) dL_law_629 ?_
  refine zl_same hH (tgt := 2327) rfl dL_law_632 (by decide) ?_
  refine zl_widen (Nat.le_add_right _ 1) (Nat.le_add_right _ 6) ?_
  exact ih k' n' v hr2
theorem lc_10 {p : Program} {l : Launch} {e : Env} {s : State} {m : MethodId} {args : Array Value} {below : List Frame} {meth : Method} {c : Code} {b L : Nat} {xs : Nat → Int32} {g : GT} {ao : Nat} {cO : ClassId} {Q : State → Prop} {cells slots t : Nat} {k n : ST} {v : Int64} (hH : HL p s m args meth c b L xs g ao cO) (hL : L ≤ 3072) (ht : 6 * t + 6 ≤ L) (hcl : cells + 1 ≤ room_1.cells ∧ slots + 6 ≤ room_1.slots) (hr : Rel t k n) (ih : ∀ (k n : ST) (v : Int64), Rel (t + 1) k n → ZL p l e room_1 s m args below meth c g ao cO Q (cells + 1) (slots + 6) k n v 2327 [(4, .int (nI (6 * t))), (0, .ref b), (1, .ref (g.2.1 10)), (2, .ref (g.2.1 11)), (3, .ref ao)] []) : ZL p l e room_1 s m args below meth c g ao cO Q cells slots k n v 637 [(4, .int (nI (6 * t))), (0, .ref b), (1, .ref (g.2.1 10)), (2, .ref (g.2.1 11)), (3, .ref ao)] [] := by
  obtain ⟨r, k', n', hK, hM, hr2⟩ := pair_wrap t k n (xs (6 * t + 1)) (xs (6 * t + 2)) (by omega) hr
  refine zl_aload_n hH dL_law_637 rfl 2 rfl ?_
  refine zl_aload_n hH dL_law_638 rfl 1 rfl ?_
  refine zl_iload hH dL_law_639 0 rfl ?_
  refine zl_iconst hH (x := 1) dL_law_641 rfl ?_
  refine zl_iadd hH dL_law_642 ?_
  refine zl_sld hH hL (6 * t + 1) (nI_add (6 * t) 1) (by omega) dL_law_643 ?_
  refine zl_aload_n hH dL_law_644 rfl 1 rfl ?_
  refine zl_iload hH dL_law_645 0 rfl ?_
  refine zl_iconst hH (x := 2) dL_law_647 rfl ?_
  refine zl_iadd hH dL_law_648 ?_
  refine zl_sld hH hL (6 * t + 2) (nI_add (6 * t) 2) (by omega) dL_law_649 ?_
  refine zl_callK hH hK (c_X11_wrap l g (xs (6 * t + 1)) (xs (6 * t + 2))) mt_X11_wrap wd_549 wd_550 ci_10 wd_548 rfl ⟨Nat.le_of_ble_eq_true rfl, Nat.le_of_ble_eq_true rfl⟩ rfl rfl ⟨by omega, by omega⟩ (rest := []) rfl (Nat.le_of_ble_eq_true rfl) dL_law_650 ?_
  refine zl_aload_n hH dL_law_653 rfl 3 rfl ?_
  refine zl_aload_n hH dL_law_654 rfl 1 rfl ?_
  refine zl_iload hH dL_law_655 0 rfl ?_
  refine zl_iconst hH (x := 1) dL_law_657 rfl ?_
  refine zl_iadd hH dL_law_658 ?_
  refine zl_sld hH hL (6 * t + 1) (nI_add (6 * t) 1) (by omega) dL_law_659 ?_
  refine zl_aload_n hH dL_law_660 rfl 1 rfl ?_
  refine zl_iload hH dL_law_661 0 rfl ?_
  refine zl_iconst hH (x := 2) dL_law_663 rfl ?_
  refine zl_iadd hH dL_law_664 ?_
  refine zl_sld hH hL (6 * t + 2) (nI_add (6 * t) 2) (by omega) dL_law_665 ?_
  refine zl_callM hH hM (c_X12_wrap l g (xs (6 * t + 1)) (xs (6 * t + 2))) mt_X12_wrap wd_1563 wd_1564 ci_11 wd_1562 rfl ⟨Nat.le_of_ble_eq_true rfl, Nat.le_of_ble_eq_true rfl⟩ rfl rfl ⟨by omega, by omega⟩ (rest := [.int r]) rfl (Nat.le_of_ble_eq_true rfl) dL_law_666 ?_
  refine zl_same hH (tgt := 2327) rfl dL_law_669 (by decide) ?_
  refine zl_widen (Nat.le_add_right _ 1) (Nat.le_add_right _ 6) ?_
  exact ih k' n' v hr2
theorem lc_11 {p : Program} {l : Launch} {e : Env} {s : State} {m : MethodId} {args : Array Value} {below : List Frame} {meth : Method} {c : Code} {b L : Nat} {xs : Nat → Int32} {g : GT} {ao : Nat} {cO : ClassId} {Q : State → Prop} {cells slots t : Nat} {k n : ST} {v : Int64} (hH : HL p s m args meth c b L xs g ao cO) (hL : L ≤ 3072) (ht : 6 * t + 6 ≤ L) (hcl : cells + 1 ≤ room_1.cells ∧ slots + 6 ≤ room_1.slots) (hr : Rel t k n) (ih : ∀ (k n : ST) (v : Int64), Rel (t + 1) k n → ZL p l e room_1 s m args below meth c g ao cO Q (cells + 1) (slots + 6) k n v 2327 [(4, .int (nI (6 * t))), (0, .ref b), (1, .ref (g.2.1 10)), (2, .ref (g.2.1 11)), (3, .ref ao)] []) : ZL p l e room_1 s m args below meth c g ao cO Q cells slots k n v 674 [(4, .int (nI (6 * t))), (0, .ref b), (1, .ref (g.2.1 10)), (2, .ref (g.2.1 11)), (3, .ref ao)] [] := by
  obtain ⟨r, k', n', hK, hM, hr2⟩ := pair_cut t k n (xs (6 * t + 1)) (by omega) hr
  refine zl_aload_n hH dL_law_674 rfl 2 rfl ?_
  refine zl_aload_n hH dL_law_675 rfl 1 rfl ?_
  refine zl_iload hH dL_law_676 0 rfl ?_
  refine zl_iconst hH (x := 1) dL_law_678 rfl ?_
  refine zl_iadd hH dL_law_679 ?_
  refine zl_sld hH hL (6 * t + 1) (nI_add (6 * t) 1) (by omega) dL_law_680 ?_
  refine zl_callK hH hK (c_X11_cut l g (xs (6 * t + 1))) mt_X11_cut wd_557 wd_558 ci_10 wd_556 rfl ⟨Nat.le_of_ble_eq_true rfl, Nat.le_of_ble_eq_true rfl⟩ rfl rfl ⟨by omega, by omega⟩ (rest := []) rfl (Nat.le_of_ble_eq_true rfl) dL_law_681 ?_
  refine zl_aload_n hH dL_law_684 rfl 3 rfl ?_
  refine zl_aload_n hH dL_law_685 rfl 1 rfl ?_
  refine zl_iload hH dL_law_686 0 rfl ?_
  refine zl_iconst hH (x := 1) dL_law_688 rfl ?_
  refine zl_iadd hH dL_law_689 ?_
  refine zl_sld hH hL (6 * t + 1) (nI_add (6 * t) 1) (by omega) dL_law_690 ?_
  refine zl_callM hH hM (c_X12_cut l g (xs (6 * t + 1))) mt_X12_cut wd_1567 wd_1568 ci_11 wd_1566 rfl ⟨Nat.le_of_ble_eq_true rfl, Nat.le_of_ble_eq_true rfl⟩ rfl rfl ⟨by omega, by omega⟩ (rest := [.int (b2i r)]) rfl (Nat.le_of_ble_eq_true rfl) dL_law_691 ?_
  refine zl_same hH (tgt := 2327) rfl dL_law_694 (by decide) ?_
  refine zl_widen (Nat.le_add_right _ 1) (Nat.le_add_right _ 6) ?_
  exact ih k' n' v hr2
theorem lc_12 {p : Program} {l : Launch} {e : Env} {s : State} {m : MethodId} {args : Array Value} {below : List Frame} {meth : Method} {c : Code} {b L : Nat} {xs : Nat → Int32} {g : GT} {ao : Nat} {cO : ClassId} {Q : State → Prop} {cells slots t : Nat} {k n : ST} {v : Int64} (hH : HL p s m args meth c b L xs g ao cO) (hL : L ≤ 3072) (ht : 6 * t + 6 ≤ L) (hcl : cells + 1 ≤ room_1.cells ∧ slots + 6 ≤ room_1.slots) (hr : Rel t k n) (ih : ∀ (k n : ST) (v : Int64), Rel (t + 1) k n → ZL p l e room_1 s m args below meth c g ao cO Q (cells + 1) (slots + 6) k n v 2327 [(4, .int (nI (6 * t))), (0, .ref b), (1, .ref (g.2.1 10)), (2, .ref (g.2.1 11)), (3, .ref ao)] []) : ZL p l e room_1 s m args below meth c g ao cO Q cells slots k n v 699 [(4, .int (nI (6 * t))), (0, .ref b), (1, .ref (g.2.1 10)), (2, .ref (g.2.1 11)), (3, .ref ao)] [] := by
  obtain ⟨r, k', n', hK, hM, hr2⟩ := pair_part t k n (xs (6 * t + 1)) (xs (6 * t + 2)) (xs (6 * t + 3)) ((j_lshl (Int32.toInt64 (xs (6 * t + 4))) 32) ||| ((Int32.toInt64 (xs (6 * t + 5))) &&& (4294967295))) (by omega) hr
  refine zl_aload_n hH dL_law_699 rfl 2 rfl ?_
  refine zl_aload_n hH dL_law_700 rfl 1 rfl ?_
  refine zl_iload hH dL_law_701 0 rfl ?_
  refine zl_iconst hH (x := 1) dL_law_703 rfl ?_
  refine zl_iadd hH dL_law_704 ?_
  refine zl_sld hH hL (6 * t + 1) (nI_add (6 * t) 1) (by omega) dL_law_705 ?_
  refine zl_aload_n hH dL_law_706 rfl 1 rfl ?_
  refine zl_iload hH dL_law_707 0 rfl ?_
  refine zl_iconst hH (x := 2) dL_law_709 rfl ?_
  refine zl_iadd hH dL_law_710 ?_
  refine zl_sld hH hL (6 * t + 2) (nI_add (6 * t) 2) (by omega) dL_law_711 ?_
  refine zl_aload_n hH dL_law_712 rfl 1 rfl ?_
  refine zl_iload hH dL_law_713 0 rfl ?_
  refine zl_iconst hH (x := 3) dL_law_715 rfl ?_
  refine zl_iadd hH dL_law_716 ?_
  refine zl_sld hH hL (6 * t + 3) (nI_add (6 * t) 3) (by omega) dL_law_717 ?_
  refine zl_aload_n hH dL_law_718 rfl 1 rfl ?_
  refine zl_iload hH dL_law_719 0 rfl ?_
  refine zl_iconst hH (x := 4) dL_law_721 rfl ?_
  refine zl_iadd hH dL_law_722 ?_
  refine zl_sld hH hL (6 * t + 4) (nI_add (6 * t) 4) (by omega) dL_law_723 ?_
  refine zl_i2l hH dL_law_724 ?_
  refine zl_bipush hH (x := 32) dL_law_725 rfl ?_
  refine zl_lshl hH dL_law_727 ?_
  refine zl_aload_n hH dL_law_728 rfl 1 rfl ?_
  refine zl_iload hH dL_law_729 0 rfl ?_
  refine zl_iconst hH (x := 5) dL_law_731 rfl ?_
  refine zl_iadd hH dL_law_732 ?_
  refine zl_sld hH hL (6 * t + 5) (nI_add (6 * t) 5) (by omega) dL_law_733 ?_
  refine zl_i2l hH dL_law_734 ?_
  refine zl_ldc2 hH wd_1914 dL_law_735 ?_
  refine zl_land hH dL_law_738 ?_
  refine zl_lor hH dL_law_739 ?_
  refine zl_callK hH hK (c_X11_part l g (xs (6 * t + 1)) (xs (6 * t + 2)) (xs (6 * t + 3)) ((j_lshl (Int32.toInt64 (xs (6 * t + 4))) 32) ||| ((Int32.toInt64 (xs (6 * t + 5))) &&& (4294967295)))) mt_X11_part wd_565 wd_566 ci_10 wd_564 rfl ⟨Nat.le_of_ble_eq_true rfl, Nat.le_of_ble_eq_true rfl⟩ rfl rfl ⟨by omega, by omega⟩ (rest := []) rfl (Nat.le_of_ble_eq_true rfl) dL_law_740 ?_
  refine zl_aload_n hH dL_law_743 rfl 3 rfl ?_
  refine zl_aload_n hH dL_law_744 rfl 1 rfl ?_
  refine zl_iload hH dL_law_745 0 rfl ?_
  refine zl_iconst hH (x := 1) dL_law_747 rfl ?_
  refine zl_iadd hH dL_law_748 ?_
  refine zl_sld hH hL (6 * t + 1) (nI_add (6 * t) 1) (by omega) dL_law_749 ?_
  refine zl_aload_n hH dL_law_750 rfl 1 rfl ?_
  refine zl_iload hH dL_law_751 0 rfl ?_
  refine zl_iconst hH (x := 2) dL_law_753 rfl ?_
  refine zl_iadd hH dL_law_754 ?_
  refine zl_sld hH hL (6 * t + 2) (nI_add (6 * t) 2) (by omega) dL_law_755 ?_
  refine zl_aload_n hH dL_law_756 rfl 1 rfl ?_
  refine zl_iload hH dL_law_757 0 rfl ?_
  refine zl_iconst hH (x := 3) dL_law_759 rfl ?_
  refine zl_iadd hH dL_law_760 ?_
  refine zl_sld hH hL (6 * t + 3) (nI_add (6 * t) 3) (by omega) dL_law_761 ?_
  refine zl_aload_n hH dL_law_762 rfl 1 rfl ?_
  refine zl_iload hH dL_law_763 0 rfl ?_
  refine zl_iconst hH (x := 4) dL_law_765 rfl ?_
  refine zl_iadd hH dL_law_766 ?_
  refine zl_sld hH hL (6 * t + 4) (nI_add (6 * t) 4) (by omega) dL_law_767 ?_
  refine zl_i2l hH dL_law_768 ?_
  refine zl_bipush hH (x := 32) dL_law_769 rfl ?_
  refine zl_lshl hH dL_law_771 ?_
  refine zl_aload_n hH dL_law_772 rfl 1 rfl ?_
  refine zl_iload hH dL_law_773 0 rfl ?_
  refine zl_iconst hH (x := 5) dL_law_775 rfl ?_
  refine zl_iadd hH dL_law_776 ?_
  refine zl_sld hH hL (6 * t + 5) (nI_add (6 * t) 5) (by omega) dL_law_777 ?_
  refine zl_i2l hH dL_law_778 ?_
  refine zl_ldc2 hH wd_1914 dL_law_779 ?_
  refine zl_land hH dL_law_782 ?_
  refine zl_lor hH dL_law_783 ?_
  refine zl_callM hH hM (c_X12_part l g (xs (6 * t + 1)) (xs (6 * t + 2)) (xs (6 * t + 3)) ((j_lshl (Int32.toInt64 (xs (6 * t + 4))) 32) ||| ((Int32.toInt64 (xs (6 * t + 5))) &&& (4294967295)))) mt_X12_part wd_1571 wd_1572 ci_11 wd_1570 rfl ⟨Nat.le_of_ble_eq_true rfl, Nat.le_of_ble_eq_true rfl⟩ rfl rfl ⟨by omega, by omega⟩ (rest := [.int r]) rfl (Nat.le_of_ble_eq_true rfl) dL_law_784 ?_
  refine zl_same hH (tgt := 2327) rfl dL_law_787 (by decide) ?_
  refine zl_widen (Nat.le_add_right _ 1) (Nat.le_add_right _ 6) ?_
  exact ih k' n' v hr2
theorem lc_13 {p : Program} {l : Launch} {e : Env} {s : State} {m : MethodId} {args : Array Value} {below : List Frame} {meth : Method} {c : Code} {b L : Nat} {xs : Nat → Int32} {g : GT} {ao : Nat} {cO : ClassId} {Q : State → Prop} {cells slots t : Nat} {k n : ST} {v : Int64} (hH : HL p s m args meth c b L xs g ao cO) (hL : L ≤ 3072) (ht : 6 * t + 6 ≤ L) (hcl : cells + 1 ≤ room_1.cells ∧ slots + 6 ≤ room_1.slots) (hr : Rel t k n) (ih : ∀ (k n : ST) (v : Int64), Rel (t + 1) k n → ZL p l e room_1 s m args below meth c g ao cO Q (cells + 1) (slots + 6) k n v 2327 [(4, .int (nI (6 * t))), (0, .ref b), (1, .ref (g.2.1 10)), (2, .ref (g.2.1 11)), (3, .ref ao)] []) : ZL p l e room_1 s m args below meth c g ao cO Q cells slots k n v 792 [(4, .int (nI (6 * t))), (0, .ref b), (1, .ref (g.2.1 10)), (2, .ref (g.2.1 11)), (3, .ref ao)] [] := by
  obtain ⟨r, k', n', hK, hM, hr2⟩ := pair_again t k n (xs (6 * t + 1)) ((j_lshl (Int32.toInt64 (xs (6 * t + 2))) 32) ||| ((Int32.toInt64 (xs (6 * t + 3))) &&& (4294967295))) (by omega) hr
  refine zl_aload_n hH dL_law_792 rfl 2 rfl ?_
  refine zl_aload_n hH dL_law_793 rfl 1 rfl ?_
  refine zl_iload hH dL_law_794 0 rfl ?_
  refine zl_iconst hH (x := 1) dL_law_796 rfl ?_
  refine zl_iadd hH dL_law_797 ?_
  refine zl_sld hH hL (6 * t + 1) (nI_add (6 * t) 1) (by omega) dL_law_798 ?_
  refine zl_aload_n hH dL_law_799 rfl 1 rfl ?_
  refine zl_iload hH dL_law_800 0 rfl ?_
  refine zl_iconst hH (x := 2) dL_law_802 rfl ?_
  refine zl_iadd hH dL_law_803 ?_
  refine zl_sld hH hL (6 * t + 2) (nI_add (6 * t) 2) (by omega) dL_law_804 ?_
  refine zl_i2l hH dL_law_805 ?_
  refine zl_bipush hH (x := 32) dL_law_806 rfl ?_
  refine zl_lshl hH dL_law_808 ?_
  refine zl_aload_n hH dL_law_809 rfl 1 rfl ?_
  refine zl_iload hH dL_law_810 0 rfl ?_
  refine zl_iconst hH (x := 3) dL_law_812 rfl ?_
  refine zl_iadd hH dL_law_813 ?_
  refine zl_sld hH hL (6 * t + 3) (nI_add (6 * t) 3) (by omega) dL_law_814 ?_
  refine zl_i2l hH dL_law_815 ?_
  refine zl_ldc2 hH wd_1914 dL_law_816 ?_
  refine zl_land hH dL_law_819 ?_
  refine zl_lor hH dL_law_820 ?_
  refine zl_callK hH hK (c_X11_again l g (xs (6 * t + 1)) ((j_lshl (Int32.toInt64 (xs (6 * t + 2))) 32) ||| ((Int32.toInt64 (xs (6 * t + 3))) &&& (4294967295)))) mt_X11_again wd_600 wd_601 ci_10 wd_599 rfl ⟨Nat.le_of_ble_eq_true rfl, Nat.le_of_ble_eq_true rfl⟩ rfl rfl ⟨by omega, by omega⟩ (rest := []) rfl (Nat.le_of_ble_eq_true rfl) dL_law_821 ?_
  refine zl_aload_n hH dL_law_824 rfl 3 rfl ?_
  refine zl_aload_n hH dL_law_825 rfl 1 rfl ?_
  refine zl_iload hH dL_law_826 0 rfl ?_
  refine zl_iconst hH (x := 1) dL_law_828 rfl ?_
  refine zl_iadd hH dL_law_829 ?_
  refine zl_sld hH hL (6 * t + 1) (nI_add (6 * t) 1) (by omega) dL_law_830 ?_
  refine zl_aload_n hH dL_law_831 rfl 1 rfl ?_
  refine zl_iload hH dL_law_832 0 rfl ?_
  refine zl_iconst hH (x := 2) dL_law_834 rfl ?_
  refine zl_iadd hH dL_law_835 ?_
  refine zl_sld hH hL (6 * t + 2) (nI_add (6 * t) 2) (by omega) dL_law_836 ?_
  refine zl_i2l hH dL_law_837 ?_
  refine zl_bipush hH (x := 32) dL_law_838 rfl ?_
  refine zl_lshl hH dL_law_840 ?_
  refine zl_aload_n hH dL_law_841 rfl 1 rfl ?_
  refine zl_iload hH dL_law_842 0 rfl ?_
  refine zl_iconst hH (x := 3) dL_law_844 rfl ?_
  refine zl_iadd hH dL_law_845 ?_
  refine zl_sld hH hL (6 * t + 3) (nI_add (6 * t) 3) (by omega) dL_law_846 ?_
  refine zl_i2l hH dL_law_847 ?_
  refine zl_ldc2 hH wd_1914 dL_law_848 ?_
  refine zl_land hH dL_law_851 ?_
  refine zl_lor hH dL_law_852 ?_
  refine zl_callM hH hM (c_X12_again l g (xs (6 * t + 1)) ((j_lshl (Int32.toInt64 (xs (6 * t + 2))) 32) ||| ((Int32.toInt64 (xs (6 * t + 3))) &&& (4294967295)))) mt_X12_again wd_1592 wd_1593 ci_11 wd_1591 rfl ⟨Nat.le_of_ble_eq_true rfl, Nat.le_of_ble_eq_true rfl⟩ rfl rfl ⟨by omega, by omega⟩ (rest := [.int r]) rfl (Nat.le_of_ble_eq_true rfl) dL_law_853 ?_
  refine zl_same hH (tgt := 2327) rfl dL_law_856 (by decide) ?_
  refine zl_widen (Nat.le_add_right _ 1) (Nat.le_add_right _ 6) ?_
  exact ih k' n' v hr2
theorem lc_14 {p : Program} {l : Launch} {e : Env} {s : State} {m : MethodId} {args : Array Value} {below : List Frame} {meth : Method} {c : Code} {b L : Nat} {xs : Nat → Int32} {g : GT} {ao : Nat} {cO : ClassId} {Q : State → Prop} {cells slots t : Nat} {k n : ST} {v : Int64} (hH : HL p s m args meth c b L xs g ao cO) (hL : L ≤ 3072) (ht : 6 * t + 6 ≤ L) (hcl : cells + 1 ≤ room_1.cells ∧ slots + 6 ≤ room_1.slots) (hr : Rel t k n) (ih : ∀ (k n : ST) (v : Int64), Rel (t + 1) k n → ZL p l e room_1 s m args below meth c g ao cO Q (cells + 1) (slots + 6) k n v 2327 [(4, .int (nI (6 * t))), (0, .ref b), (1, .ref (g.2.1 10)), (2, .ref (g.2.1 11)), (3, .ref ao)] []) : ZL p l e room_1 s m args below meth c g ao cO Q cells slots k n v 861 [(4, .int (nI (6 * t))), (0, .ref b), (1, .ref (g.2.1 10)), (2, .ref (g.2.1 11)), (3, .ref ao)] [] := by
  obtain ⟨r, k', n', hK, hM, hr2⟩ := pair_piece t k n (xs (6 * t + 1)) (xs (6 * t + 2)) (by omega) hr
  refine zl_aload_n hH dL_law_861 rfl 2 rfl ?_
  refine zl_aload_n hH dL_law_862 rfl 1 rfl ?_
  refine zl_iload hH dL_law_863 0 rfl ?_
  refine zl_iconst hH (x := 1) dL_law_865 rfl ?_
  refine zl_iadd hH dL_law_866 ?_
  refine zl_sld hH hL (6 * t + 1) (nI_add (6 * t) 1) (by omega) dL_law_867 ?_
  refine zl_aload_n hH dL_law_868 rfl 1 rfl ?_
  refine zl_iload hH dL_law_869 0 rfl ?_
  refine zl_iconst hH (x := 2) dL_law_871 rfl ?_
  refine zl_iadd hH dL_law_872 ?_
  refine zl_sld hH hL (6 * t + 2) (nI_add (6 * t) 2) (by omega) dL_law_873 ?_
  refine zl_callK hH hK (c_X11_piece l g (xs (6 * t + 1)) (xs (6 * t + 2))) mt_X11_piece wd_605 wd_606 ci_10 wd_604 rfl ⟨Nat.le_of_ble_eq_true rfl, Nat.le_of_ble_eq_true rfl⟩ rfl rfl ⟨by omega, by omega⟩ (rest := []) rfl (Nat.le_of_ble_eq_true rfl) dL_law_874 ?_
  refine zl_aload_n hH dL_law_877 rfl 3 rfl ?_
  refine zl_aload_n hH dL_law_878 rfl 1 rfl ?_
  refine zl_iload hH dL_law_879 0 rfl ?_
  refine zl_iconst hH (x := 1) dL_law_881 rfl ?_
  refine zl_iadd hH dL_law_882 ?_
  refine zl_sld hH hL (6 * t + 1) (nI_add (6 * t) 1) (by omega) dL_law_883 ?_
  refine zl_aload_n hH dL_law_884 rfl 1 rfl ?_
  refine zl_iload hH dL_law_885 0 rfl ?_
  refine zl_iconst hH (x := 2) dL_law_887 rfl ?_
  refine zl_iadd hH dL_law_888 ?_
  refine zl_sld hH hL (6 * t + 2) (nI_add (6 * t) 2) (by omega) dL_law_889 ?_
  refine zl_callM hH hM (c_X12_piece l g (xs (6 * t + 1)) (xs (6 * t + 2))) mt_X12_piece wd_1600 wd_1601 ci_11 wd_1599 rfl ⟨Nat.le_of_ble_eq_true rfl, Nat.le_of_ble_eq_true rfl⟩ rfl rfl ⟨by omega, by omega⟩ (rest := [.int r]) rfl (Nat.le_of_ble_eq_true rfl) dL_law_890 ?_
  refine zl_same hH (tgt := 2327) rfl dL_law_893 (by decide) ?_
  refine zl_widen (Nat.le_add_right _ 1) (Nat.le_add_right _ 6) ?_
  exact ih k' n' v hr2
theorem lc_15 {p : Program} {l : Launch} {e : Env} {s : State} {m : MethodId} {args : Array Value} {below : List Frame} {meth : Method} {c : Code} {b L : Nat} {xs : Nat → Int32} {g : GT} {ao : Nat} {cO : ClassId} {Q : State → Prop} {cells slots t : Nat} {k n : ST} {v : Int64} (hH : HL p s m args meth c b L xs g ao cO) (hL : L ≤ 3072) (ht : 6 * t + 6 ≤ L) (hcl : cells + 1 ≤ room_1.cells ∧ slots + 6 ≤ room_1.slots) (hr : Rel t k n) (ih : ∀ (k n : ST) (v : Int64), Rel (t + 1) k n → ZL p l e room_1 s m args below meth c g ao cO Q (cells + 1) (slots + 6) k n v 2327 [(4, .int (nI (6 * t))), (0, .ref b), (1, .ref (g.2.1 10)), (2, .ref (g.2.1 11)), (3, .ref ao)] []) : ZL p l e room_1 s m args below meth c g ao cO Q cells slots k n v 898 [(4, .int (nI (6 * t))), (0, .ref b), (1, .ref (g.2.1 10)), (2, .ref (g.2.1 11)), (3, .ref ao)] [] := by
  obtain ⟨r, k', n', hK, hM, hr2⟩ := pair_checks t k n (xs (6 * t + 1)) (xs (6 * t + 2)) (by omega) hr
  refine zl_aload_n hH dL_law_898 rfl 2 rfl ?_
  refine zl_aload_n hH dL_law_899 rfl 1 rfl ?_
  refine zl_iload hH dL_law_900 0 rfl ?_
  refine zl_iconst hH (x := 1) dL_law_902 rfl ?_
  refine zl_iadd hH dL_law_903 ?_
  refine zl_sld hH hL (6 * t + 1) (nI_add (6 * t) 1) (by omega) dL_law_904 ?_
  refine zl_aload_n hH dL_law_905 rfl 1 rfl ?_
  refine zl_iload hH dL_law_906 0 rfl ?_
  refine zl_iconst hH (x := 2) dL_law_908 rfl ?_
  refine zl_iadd hH dL_law_909 ?_
  refine zl_sld hH hL (6 * t + 2) (nI_add (6 * t) 2) (by omega) dL_law_910 ?_
  refine zl_callK hH hK (c_X11_checks l g (xs (6 * t + 1)) (xs (6 * t + 2))) mt_X11_checks wd_626 wd_627 ci_10 wd_625 rfl ⟨Nat.le_of_ble_eq_true rfl, Nat.le_of_ble_eq_true rfl⟩ rfl rfl ⟨by omega, by omega⟩ (rest := []) rfl (Nat.le_of_ble_eq_true rfl) dL_law_911 ?_
  refine zl_aload_n hH dL_law_914 rfl 3 rfl ?_
  refine zl_aload_n hH dL_law_915 rfl 1 rfl ?_
  refine zl_iload hH dL_law_916 0 rfl ?_
  refine zl_iconst hH (x := 1) dL_law_918 rfl ?_
  refine zl_iadd hH dL_law_919 ?_
  refine zl_sld hH hL (6 * t + 1) (nI_add (6 * t) 1) (by omega) dL_law_920 ?_
  refine zl_aload_n hH dL_law_921 rfl 1 rfl ?_
  refine zl_iload hH dL_law_922 0 rfl ?_
  refine zl_iconst hH (x := 2) dL_law_924 rfl ?_
  refine zl_iadd hH dL_law_925 ?_
  refine zl_sld hH hL (6 * t + 2) (nI_add (6 * t) 2) (by omega) dL_law_926 ?_
  refine zl_callM hH hM (c_X12_checks l g (xs (6 * t + 1)) (xs (6 * t + 2))) mt_X12_checks wd_1612 wd_1613 ci_11 wd_1611 rfl ⟨Nat.le_of_ble_eq_true rfl, Nat.le_of_ble_eq_true rfl⟩ rfl rfl ⟨by omega, by omega⟩ (rest := [.int r]) rfl (Nat.le_of_ble_eq_true rfl) dL_law_927 ?_
  refine zl_same hH (tgt := 2327) rfl dL_law_930 (by decide) ?_
  refine zl_widen (Nat.le_add_right _ 1) (Nat.le_add_right _ 6) ?_
  exact ih k' n' v hr2
theorem lc_16 {p : Program} {l : Launch} {e : Env} {s : State} {m : MethodId} {args : Array Value} {below : List Frame} {meth : Method} {c : Code} {b L : Nat} {xs : Nat → Int32} {g : GT} {ao : Nat} {cO : ClassId} {Q : State → Prop} {cells slots t : Nat} {k n : ST} {v : Int64} (hH : HL p s m args meth c b L xs g ao cO) (hL : L ≤ 3072) (ht : 6 * t + 6 ≤ L) (hcl : cells + 1 ≤ room_1.cells ∧ slots + 6 ≤ room_1.slots) (hr : Rel t k n) (ih : ∀ (k n : ST) (v : Int64), Rel (t + 1) k n → ZL p l e room_1 s m args below meth c g ao cO Q (cells + 1) (slots + 6) k n v 2327 [(4, .int (nI (6 * t))), (0, .ref b), (1, .ref (g.2.1 10)), (2, .ref (g.2.1 11)), (3, .ref ao)] []) : ZL p l e room_1 s m args below meth c g ao cO Q cells slots k n v 935 [(4, .int (nI (6 * t))), (0, .ref b), (1, .ref (g.2.1 10)), (2, .ref (g.2.1 11)), (3, .ref ao)] [] := by
  obtain ⟨r, k', n', hK, hM, hr2⟩ := pair_fits t k n (xs (6 * t + 1)) (xs (6 * t + 2)) (xs (6 * t + 3)) (by omega) hr
  refine zl_aload_n hH dL_law_935 rfl 2 rfl ?_
  refine zl_aload_n hH dL_law_936 rfl 1 rfl ?_
  refine zl_iload hH dL_law_937 0 rfl ?_
  refine zl_iconst hH (x := 1) dL_law_939 rfl ?_
  refine zl_iadd hH dL_law_940 ?_
  refine zl_sld hH hL (6 * t + 1) (nI_add (6 * t) 1) (by omega) dL_law_941 ?_
  refine zl_aload_n hH dL_law_942 rfl 1 rfl ?_
  refine zl_iload hH dL_law_943 0 rfl ?_
  refine zl_iconst hH (x := 2) dL_law_945 rfl ?_
  refine zl_iadd hH dL_law_946 ?_
  refine zl_sld hH hL (6 * t + 2) (nI_add (6 * t) 2) (by omega) dL_law_947 ?_
  refine zl_aload_n hH dL_law_948 rfl 1 rfl ?_
  refine zl_iload hH dL_law_949 0 rfl ?_
  refine zl_iconst hH (x := 3) dL_law_951 rfl ?_
  refine zl_iadd hH dL_law_952 ?_
  refine zl_sld hH hL (6 * t + 3) (nI_add (6 * t) 3) (by omega) dL_law_953 ?_
  refine zl_callK hH hK (c_X11_fits l g (xs (6 * t + 1)) (xs (6 * t + 2)) (xs (6 * t + 3))) mt_X11_fits wd_644 wd_645 ci_10 wd_643 rfl ⟨Nat.le_of_ble_eq_true rfl, Nat.le_of_ble_eq_true rfl⟩ rfl rfl ⟨by omega, by omega⟩ (rest := []) rfl (Nat.le_of_ble_eq_true rfl) dL_law_954 ?_
  refine zl_aload_n hH dL_law_957 rfl 3 rfl ?_
  refine zl_aload_n hH dL_law_958 rfl 1 rfl ?_
  refine zl_iload hH dL_law_959 0 rfl ?_
  refine zl_iconst hH (x := 1) dL_law_961 rfl ?_
  refine zl_iadd hH dL_law_962 ?_
  refine zl_sld hH hL (6 * t + 1) (nI_add (6 * t) 1) (by omega) dL_law_963 ?_
  refine zl_aload_n hH dL_law_964 rfl 1 rfl ?_
  refine zl_iload hH dL_law_965 0 rfl ?_
  refine zl_iconst hH (x := 2) dL_law_967 rfl ?_
  refine zl_iadd hH dL_law_968 ?_
  refine zl_sld hH hL (6 * t + 2) (nI_add (6 * t) 2) (by omega) dL_law_969 ?_
  refine zl_aload_n hH dL_law_970 rfl 1 rfl ?_
  refine zl_iload hH dL_law_971 0 rfl ?_
  refine zl_iconst hH (x := 3) dL_law_973 rfl ?_
  refine zl_iadd hH dL_law_974 ?_
  refine zl_sld hH hL (6 * t + 3) (nI_add (6 * t) 3) (by omega) dL_law_975 ?_
  refine zl_callM hH hM (c_X12_fits l g (xs (6 * t + 1)) (xs (6 * t + 2)) (xs (6 * t + 3))) mt_X12_fits wd_1616 wd_1617 ci_11 wd_1615 rfl ⟨Nat.le_of_ble_eq_true rfl, Nat.le_of_ble_eq_true rfl⟩ rfl rfl ⟨by omega, by omega⟩ (rest := [.int r]) rfl (Nat.le_of_ble_eq_true rfl) dL_law_976 ?_
  refine zl_same hH (tgt := 2327) rfl dL_law_979 (by decide) ?_
  refine zl_widen (Nat.le_add_right _ 1) (Nat.le_add_right _ 6) ?_
  exact ih k' n' v hr2
theorem lc_17 {p : Program} {l : Launch} {e : Env} {s : State} {m : MethodId} {args : Array Value} {below : List Frame} {meth : Method} {c : Code} {b L : Nat} {xs : Nat → Int32} {g : GT} {ao : Nat} {cO : ClassId} {Q : State → Prop} {cells slots t : Nat} {k n : ST} {v : Int64} (hH : HL p s m args meth c b L xs g ao cO) (hL : L ≤ 3072) (ht : 6 * t + 6 ≤ L) (hcl : cells + 1 ≤ room_1.cells ∧ slots + 6 ≤ room_1.slots) (hr : Rel t k n) (ih : ∀ (k n : ST) (v : Int64), Rel (t + 1) k n → ZL p l e room_1 s m args below meth c g ao cO Q (cells + 1) (slots + 6) k n v 2327 [(4, .int (nI (6 * t))), (0, .ref b), (1, .ref (g.2.1 10)), (2, .ref (g.2.1 11)), (3, .ref ao)] []) : ZL p l e room_1 s m args below meth c g ao cO Q cells slots k n v 984 [(4, .int (nI (6 * t))), (0, .ref b), (1, .ref (g.2.1 10)), (2, .ref (g.2.1 11)), (3, .ref ao)] [] := by
  obtain ⟨r, k', n', hK, hM, hr2⟩ := pair_lay t k n (xs (6 * t + 1)) (xs (6 * t + 2)) (by omega) hr
  refine zl_aload_n hH dL_law_984 rfl 2 rfl ?_
  refine zl_aload_n hH dL_law_985 rfl 1 rfl ?_
  refine zl_iload hH dL_law_986 0 rfl ?_
  refine zl_iconst hH (x := 1) dL_law_988 rfl ?_
  refine zl_iadd hH dL_law_989 ?_
  refine zl_sld hH hL (6 * t + 1) (nI_add (6 * t) 1) (by omega) dL_law_990 ?_
  refine zl_aload_n hH dL_law_991 rfl 1 rfl ?_
  refine zl_iload hH dL_law_992 0 rfl ?_
  refine zl_iconst hH (x := 2) dL_law_994 rfl ?_
  refine zl_iadd hH dL_law_995 ?_
  refine zl_sld hH hL (6 * t + 2) (nI_add (6 * t) 2) (by omega) dL_law_996 ?_
  refine zl_callK hH hK (c_X11_lay l g (xs (6 * t + 1)) (xs (6 * t + 2))) mt_X11_lay wd_659 wd_660 ci_10 wd_658 rfl ⟨Nat.le_of_ble_eq_true rfl, Nat.le_of_ble_eq_true rfl⟩ rfl rfl ⟨by omega, by omega⟩ (rest := []) rfl (Nat.le_of_ble_eq_true rfl) dL_law_997 ?_
  refine zl_aload_n hH dL_law_1000 rfl 3 rfl ?_
  refine zl_aload_n hH dL_law_1001 rfl 1 rfl ?_
  refine zl_iload hH dL_law_1002 0 rfl ?_
  refine zl_iconst hH (x := 1) dL_law_1004 rfl ?_
  refine zl_iadd hH dL_law_1005 ?_
  refine zl_sld hH hL (6 * t + 1) (nI_add (6 * t) 1) (by omega) dL_law_1006 ?_
  refine zl_aload_n hH dL_law_1007 rfl 1 rfl ?_
  refine zl_iload hH dL_law_1008 0 rfl ?_
  refine zl_iconst hH (x := 2) dL_law_1010 rfl ?_
  refine zl_iadd hH dL_law_1011 ?_
  refine zl_sld hH hL (6 * t + 2) (nI_add (6 * t) 2) (by omega) dL_law_1012 ?_
  refine zl_callM hH hM (c_X12_lay l g (xs (6 * t + 1)) (xs (6 * t + 2))) mt_X12_lay wd_1620 wd_1621 ci_11 wd_1619 rfl ⟨Nat.le_of_ble_eq_true rfl, Nat.le_of_ble_eq_true rfl⟩ rfl rfl ⟨by omega, by omega⟩ (rest := [.int r]) rfl (Nat.le_of_ble_eq_true rfl) dL_law_1013 ?_
  refine zl_same hH (tgt := 2327) rfl dL_law_1016 (by decide) ?_
  refine zl_widen (Nat.le_add_right _ 1) (Nat.le_add_right _ 6) ?_
  exact ih k' n' v hr2
theorem lc_18 {p : Program} {l : Launch} {e : Env} {s : State} {m : MethodId} {args : Array Value} {below : List Frame} {meth : Method} {c : Code} {b L : Nat} {xs : Nat → Int32} {g : GT} {ao : Nat} {cO : ClassId} {Q : State → Prop} {cells slots t : Nat} {k n : ST} {v : Int64} (hH : HL p s m args meth c b L xs g ao cO) (hL : L ≤ 3072) (ht : 6 * t + 6 ≤ L) (hcl : cells + 1 ≤ room_1.cells ∧ slots + 6 ≤ room_1.slots) (hr : Rel t k n) (ih : ∀ (k n : ST) (v : Int64), Rel (t + 1) k n → ZL p l e room_1 s m args below meth c g ao cO Q (cells + 1) (slots + 6) k n v 2327 [(4, .int (nI (6 * t))), (0, .ref b), (1, .ref (g.2.1 10)), (2, .ref (g.2.1 11)), (3, .ref ao)] []) : ZL p l e room_1 s m args below meth c g ao cO Q cells slots k n v 1021 [(4, .int (nI (6 * t))), (0, .ref b), (1, .ref (g.2.1 10)), (2, .ref (g.2.1 11)), (3, .ref ao)] [] := by
  obtain ⟨r, k', n', hK, hM, hr2⟩ := pair_join t k n (by omega) hr
  refine zl_aload_n hH dL_law_1021 rfl 2 rfl ?_
  refine zl_callK hH hK (c_X11_join l g) mt_X11_join wd_664 wd_665 ci_10 wd_663 rfl ⟨Nat.le_of_ble_eq_true rfl, Nat.le_of_ble_eq_true rfl⟩ rfl rfl ⟨by omega, by omega⟩ (rest := []) rfl (Nat.le_of_ble_eq_true rfl) dL_law_1022 ?_
  refine zl_aload_n hH dL_law_1025 rfl 3 rfl ?_
  refine zl_callM hH hM (c_X12_join l g) mt_X12_join wd_1624 wd_1625 ci_11 wd_1623 rfl ⟨Nat.le_of_ble_eq_true rfl, Nat.le_of_ble_eq_true rfl⟩ rfl rfl ⟨by omega, by omega⟩ (rest := [.int r]) rfl (Nat.le_of_ble_eq_true rfl) dL_law_1026 ?_
  refine zl_same hH (tgt := 2327) rfl dL_law_1029 (by decide) ?_
  refine zl_widen (Nat.le_add_right _ 1) (Nat.le_add_right _ 6) ?_
  exact ih k' n' v hr2
theorem lc_19 {p : Program} {l : Launch} {e : Env} {s : State} {m : MethodId} {args : Array Value} {below : List Frame} {meth : Method} {c : Code} {b L : Nat} {xs : Nat → Int32} {g : GT} {ao : Nat} {cO : ClassId} {Q : State → Prop} {cells slots t : Nat} {k n : ST} {v : Int64} (hH : HL p s m args meth c b L xs g ao cO) (hL : L ≤ 3072) (ht : 6 * t + 6 ≤ L) (hcl : cells + 1 ≤ room_1.cells ∧ slots + 6 ≤ room_1.slots) (hr : Rel t k n) (ih : ∀ (k n : ST) (v : Int64), Rel (t + 1) k n → ZL p l e room_1 s m args below meth c g ao cO Q (cells + 1) (slots + 6) k n v 2327 [(4, .int (nI (6 * t))), (0, .ref b), (1, .ref (g.2.1 10)), (2, .ref (g.2.1 11)), (3, .ref ao)] []) : ZL p l e room_1 s m args below meth c g ao cO Q cells slots k n v 1034 [(4, .int (nI (6 * t))), (0, .ref b), (1, .ref (g.2.1 10)), (2, .ref (g.2.1 11)), (3, .ref ao)] [] := by
  obtain ⟨r, k', n', hK, hM, hr2⟩ := pair_left t k n (xs (6 * t + 1)) (xs (6 * t + 2)) (by omega) hr
  refine zl_aload_n hH dL_law_1034 rfl 2 rfl ?_
  refine zl_aload_n hH dL_law_1035 rfl 1 rfl ?_
  refine zl_iload hH dL_law_1036 0 rfl ?_
  refine zl_iconst hH (x := 1) dL_law_1038 rfl ?_
  refine zl_iadd hH dL_law_1039 ?_
  refine zl_sld hH hL (6 * t + 1) (nI_add (6 * t) 1) (by omega) dL_law_1040 ?_
  refine zl_aload_n hH dL_law_1041 rfl 1 rfl ?_
  refine zl_iload hH dL_law_1042 0 rfl ?_
  refine zl_iconst hH (x := 2) dL_law_1044 rfl ?_
  refine zl_iadd hH dL_law_1045 ?_
  refine zl_sld hH hL (6 * t + 2) (nI_add (6 * t) 2) (by omega) dL_law_1046 ?_
  refine zl_callK hH hK (c_X11_left l g (xs (6 * t + 1)) (xs (6 * t + 2))) mt_X11_left wd_681 wd_682 ci_10 wd_680 rfl ⟨Nat.le_of_ble_eq_true rfl, Nat.le_of_ble_eq_true rfl⟩ rfl rfl ⟨by omega, by omega⟩ (rest := []) rfl (Nat.le_of_ble_eq_true rfl) dL_law_1047 ?_
  refine zl_aload_n hH dL_law_1050 rfl 3 rfl ?_
  refine zl_aload_n hH dL_law_1051 rfl 1 rfl ?_
  refine zl_iload hH dL_law_1052 0 rfl ?_
  refine zl_iconst hH (x := 1) dL_law_1054 rfl ?_
  refine zl_iadd hH dL_law_1055 ?_
  refine zl_sld hH hL (6 * t + 1) (nI_add (6 * t) 1) (by omega) dL_law_1056 ?_
  refine zl_aload_n hH dL_law_1057 rfl 1 rfl ?_
  refine zl_iload hH dL_law_1058 0 rfl ?_
  refine zl_iconst hH (x := 2) dL_law_1060 rfl ?_
  refine zl_iadd hH dL_law_1061 ?_
  refine zl_sld hH hL (6 * t + 2) (nI_add (6 * t) 2) (by omega) dL_law_1062 ?_
  refine zl_callM hH hM (c_X12_left l g (xs (6 * t + 1)) (xs (6 * t + 2))) mt_X12_left wd_1635 wd_1636 ci_11 wd_1634 rfl ⟨Nat.le_of_ble_eq_true rfl, Nat.le_of_ble_eq_true rfl⟩ rfl rfl ⟨by omega, by omega⟩ (rest := [.int r]) rfl (Nat.le_of_ble_eq_true rfl) dL_law_1063 ?_
  refine zl_same hH (tgt := 2327) rfl dL_law_1066 (by decide) ?_
  refine zl_widen (Nat.le_add_right _ 1) (Nat.le_add_right _ 6) ?_
  exact ih k' n' v hr2
theorem lc_20 {p : Program} {l : Launch} {e : Env} {s : State} {m : MethodId} {args : Array Value} {below : List Frame} {meth : Method} {c : Code} {b L : Nat} {xs : Nat → Int32} {g : GT} {ao : Nat} {cO : ClassId} {Q : State → Prop} {cells slots t : Nat} {k n : ST} {v : Int64} (hH : HL p s m args meth c b L xs g ao cO) (hL : L ≤ 3072) (ht : 6 * t + 6 ≤ L) (hcl : cells + 1 ≤ room_1.cells ∧ slots + 6 ≤ room_1.slots) (hr : Rel t k n) (ih : ∀ (k n : ST) (v : Int64), Rel (t + 1) k n → ZL p l e room_1 s m args below meth c g ao cO Q (cells + 1) (slots + 6) k n v 2327 [(4, .int (nI (6 * t))), (0, .ref b), (1, .ref (g.2.1 10)), (2, .ref (g.2.1 11)), (3, .ref ao)] []) : ZL p l e room_1 s m args below meth c g ao cO Q cells slots k n v 1071 [(4, .int (nI (6 * t))), (0, .ref b), (1, .ref (g.2.1 10)), (2, .ref (g.2.1 11)), (3, .ref ao)] [] := by
  obtain ⟨r, k', n', hK, hM, hr2⟩ := pair_got t k n (xs (6 * t + 1)) (xs (6 * t + 2)) (by omega) hr
  refine zl_aload_n hH dL_law_1071 rfl 2 rfl ?_
  refine zl_aload_n hH dL_law_1072 rfl 1 rfl ?_
  refine zl_iload hH dL_law_1073 0 rfl ?_
  refine zl_iconst hH (x := 1) dL_law_1075 rfl ?_
  refine zl_iadd hH dL_law_1076 ?_
  refine zl_sld hH hL (6 * t + 1) (nI_add (6 * t) 1) (by omega) dL_law_1077 ?_
  refine zl_aload_n hH dL_law_1078 rfl 1 rfl ?_
  refine zl_iload hH dL_law_1079 0 rfl ?_
  refine zl_iconst hH (x := 2) dL_law_1081 rfl ?_
  refine zl_iadd hH dL_law_1082 ?_
  refine zl_sld hH hL (6 * t + 2) (nI_add (6 * t) 2) (by omega) dL_law_1083 ?_
  refine zl_callK hH hK (c_X11_got l g (xs (6 * t + 1)) (xs (6 * t + 2))) mt_X11_got wd_688 wd_689 ci_10 wd_687 rfl ⟨Nat.le_of_ble_eq_true rfl, Nat.le_of_ble_eq_true rfl⟩ rfl rfl ⟨by omega, by omega⟩ (rest := []) rfl (Nat.le_of_ble_eq_true rfl) dL_law_1084 ?_
  refine zl_aload_n hH dL_law_1087 rfl 3 rfl ?_
  refine zl_aload_n hH dL_law_1088 rfl 1 rfl ?_
  refine zl_iload hH dL_law_1089 0 rfl ?_
  refine zl_iconst hH (x := 1) dL_law_1091 rfl ?_
  refine zl_iadd hH dL_law_1092 ?_
  refine zl_sld hH hL (6 * t + 1) (nI_add (6 * t) 1) (by omega) dL_law_1093 ?_
  refine zl_aload_n hH dL_law_1094 rfl 1 rfl ?_
  refine zl_iload hH dL_law_1095 0 rfl ?_
  refine zl_iconst hH (x := 2) dL_law_1097 rfl ?_
  refine zl_iadd hH dL_law_1098 ?_
  refine zl_sld hH hL (6 * t + 2) (nI_add (6 * t) 2) (by omega) dL_law_1099 ?_
  refine zl_callM hH hM (c_X12_got l g (xs (6 * t + 1)) (xs (6 * t + 2))) mt_X12_got wd_1640 wd_1641 ci_11 wd_1639 rfl ⟨Nat.le_of_ble_eq_true rfl, Nat.le_of_ble_eq_true rfl⟩ rfl rfl ⟨by omega, by omega⟩ (rest := [.long r]) rfl (Nat.le_of_ble_eq_true rfl) dL_law_1100 ?_
  refine zl_sameL hH (tgt := 2327) rfl dL_law_1103 dL_law_1104 (by decide) ?_
  refine zl_widen (Nat.le_add_right _ 1) (Nat.le_add_right _ 6) ?_
  exact ih k' n' v hr2
theorem lc_21 {p : Program} {l : Launch} {e : Env} {s : State} {m : MethodId} {args : Array Value} {below : List Frame} {meth : Method} {c : Code} {b L : Nat} {xs : Nat → Int32} {g : GT} {ao : Nat} {cO : ClassId} {Q : State → Prop} {cells slots t : Nat} {k n : ST} {v : Int64} (hH : HL p s m args meth c b L xs g ao cO) (hL : L ≤ 3072) (ht : 6 * t + 6 ≤ L) (hcl : cells + 1 ≤ room_1.cells ∧ slots + 6 ≤ room_1.slots) (hr : Rel t k n) (ih : ∀ (k n : ST) (v : Int64), Rel (t + 1) k n → ZL p l e room_1 s m args below meth c g ao cO Q (cells + 1) (slots + 6) k n v 2327 [(4, .int (nI (6 * t))), (0, .ref b), (1, .ref (g.2.1 10)), (2, .ref (g.2.1 11)), (3, .ref ao)] []) : ZL p l e room_1 s m args below meth c g ao cO Q cells slots k n v 1109 [(4, .int (nI (6 * t))), (0, .ref b), (1, .ref (g.2.1 10)), (2, .ref (g.2.1 11)), (3, .ref ao)] [] := by
  obtain ⟨r, k', n', hK, hM, hr2⟩ := pair_fault t k n (by omega) hr
  refine zl_aload_n hH dL_law_1109 rfl 2 rfl ?_
  refine zl_callK hH hK (c_X11_fault l g) mt_X11_fault wd_742 wd_743 ci_10 wd_741 rfl ⟨Nat.le_of_ble_eq_true rfl, Nat.le_of_ble_eq_true rfl⟩ rfl rfl ⟨by omega, by omega⟩ (rest := []) rfl (Nat.le_of_ble_eq_true rfl) dL_law_1110 ?_
  refine zl_aload_n hH dL_law_1113 rfl 3 rfl ?_
  refine zl_callM hH hM (c_X12_fault l g) mt_X12_fault wd_1669 wd_1670 ci_11 wd_1668 rfl ⟨Nat.le_of_ble_eq_true rfl, Nat.le_of_ble_eq_true rfl⟩ rfl rfl ⟨by omega, by omega⟩ (rest := [.int r]) rfl (Nat.le_of_ble_eq_true rfl) dL_law_1114 ?_
  refine zl_same hH (tgt := 2327) rfl dL_law_1117 (by decide) ?_
  refine zl_widen (Nat.le_add_right _ 1) (Nat.le_add_right _ 6) ?_
  exact ih k' n' v hr2
theorem lc_22 {p : Program} {l : Launch} {e : Env} {s : State} {m : MethodId} {args : Array Value} {below : List Frame} {meth : Method} {c : Code} {b L : Nat} {xs : Nat → Int32} {g : GT} {ao : Nat} {cO : ClassId} {Q : State → Prop} {cells slots t : Nat} {k n : ST} {v : Int64} (hH : HL p s m args meth c b L xs g ao cO) (hL : L ≤ 3072) (ht : 6 * t + 6 ≤ L) (hcl : cells + 1 ≤ room_1.cells ∧ slots + 6 ≤ room_1.slots) (hr : Rel t k n) (ih : ∀ (k n : ST) (v : Int64), Rel (t + 1) k n → ZL p l e room_1 s m args below meth c g ao cO Q (cells + 1) (slots + 6) k n v 2327 [(4, .int (nI (6 * t))), (0, .ref b), (1, .ref (g.2.1 10)), (2, .ref (g.2.1 11)), (3, .ref ao)] []) : ZL p l e room_1 s m args below meth c g ao cO Q cells slots k n v 1122 [(4, .int (nI (6 * t))), (0, .ref b), (1, .ref (g.2.1 10)), (2, .ref (g.2.1 11)), (3, .ref ao)] [] := by
  obtain ⟨r, k', n', hK, hM, hr2⟩ := pair_rule t k n (by omega) hr
  refine zl_aload_n hH dL_law_1122 rfl 2 rfl ?_
  refine zl_callK hH hK (c_X11_rule l g) mt_X11_rule wd_808 wd_809 ci_10 wd_807 rfl ⟨Nat.le_of_ble_eq_true rfl, Nat.le_of_ble_eq_true rfl⟩ rfl rfl ⟨by omega, by omega⟩ (rest := []) rfl (Nat.le_of_ble_eq_true rfl) dL_law_1123 ?_
  refine zl_aload_n hH dL_law_1126 rfl 3 rfl ?_
  refine zl_callM hH hM (c_X12_rule l g) mt_X12_rule wd_1721 wd_1722 ci_11 wd_1720 rfl ⟨Nat.le_of_ble_eq_true rfl, Nat.le_of_ble_eq_true rfl⟩ rfl rfl ⟨by omega, by omega⟩ (rest := [.int r]) rfl (Nat.le_of_ble_eq_true rfl) dL_law_1127 ?_
  refine zl_same hH (tgt := 2327) rfl dL_law_1130 (by decide) ?_
  refine zl_widen (Nat.le_add_right _ 1) (Nat.le_add_right _ 6) ?_
  exact ih k' n' v hr2
theorem lc_23 {p : Program} {l : Launch} {e : Env} {s : State} {m : MethodId} {args : Array Value} {below : List Frame} {meth : Method} {c : Code} {b L : Nat} {xs : Nat → Int32} {g : GT} {ao : Nat} {cO : ClassId} {Q : State → Prop} {cells slots t : Nat} {k n : ST} {v : Int64} (hH : HL p s m args meth c b L xs g ao cO) (hL : L ≤ 3072) (ht : 6 * t + 6 ≤ L) (hcl : cells + 1 ≤ room_1.cells ∧ slots + 6 ≤ room_1.slots) (hr : Rel t k n) (ih : ∀ (k n : ST) (v : Int64), Rel (t + 1) k n → ZL p l e room_1 s m args below meth c g ao cO Q (cells + 1) (slots + 6) k n v 2327 [(4, .int (nI (6 * t))), (0, .ref b), (1, .ref (g.2.1 10)), (2, .ref (g.2.1 11)), (3, .ref ao)] []) : ZL p l e room_1 s m args below meth c g ao cO Q cells slots k n v 1135 [(4, .int (nI (6 * t))), (0, .ref b), (1, .ref (g.2.1 10)), (2, .ref (g.2.1 11)), (3, .ref ao)] [] := by
  obtain ⟨r, k', n', hK, hM, hr2⟩ := pair_death t k n (xs (6 * t + 1)) (xs (6 * t + 2)) (by omega) hr
  refine zl_aload_n hH dL_law_1135 rfl 2 rfl ?_
  refine zl_aload_n hH dL_law_1136 rfl 1 rfl ?_
  refine zl_iload hH dL_law_1137 0 rfl ?_
  refine zl_iconst hH (x := 1) dL_law_1139 rfl ?_
  refine zl_iadd hH dL_law_1140 ?_
  refine zl_sld hH hL (6 * t + 1) (nI_add (6 * t) 1) (by omega) dL_law_1141 ?_
  refine zl_aload_n hH dL_law_1142 rfl 1 rfl ?_
  refine zl_iload hH dL_law_1143 0 rfl ?_
  refine zl_iconst hH (x := 2) dL_law_1145 rfl ?_
  refine zl_iadd hH dL_law_1146 ?_
  refine zl_sld hH hL (6 * t + 2) (nI_add (6 * t) 2) (by omega) dL_law_1147 ?_
  refine zl_callK hH hK (c_X11_death l g (xs (6 * t + 1)) (xs (6 * t + 2))) mt_X11_death wd_819 wd_820 ci_10 wd_818 rfl ⟨Nat.le_of_ble_eq_true rfl, Nat.le_of_ble_eq_true rfl⟩ rfl rfl ⟨by omega, by omega⟩ (rest := []) rfl (Nat.le_of_ble_eq_true rfl) dL_law_1148 ?_
  refine zl_aload_n hH dL_law_1151 rfl 3 rfl ?_
  refine zl_aload_n hH dL_law_1152 rfl 1 rfl ?_
  refine zl_iload hH dL_law_1153 0 rfl ?_
  refine zl_iconst hH (x := 1) dL_law_1155 rfl ?_
  refine zl_iadd hH dL_law_1156 ?_
  refine zl_sld hH hL (6 * t + 1) (nI_add (6 * t) 1) (by omega) dL_law_1157 ?_
  refine zl_aload_n hH dL_law_1158 rfl 1 rfl ?_
  refine zl_iload hH dL_law_1159 0 rfl ?_
  refine zl_iconst hH (x := 2) dL_law_1161 rfl ?_
  refine zl_iadd hH dL_law_1162 ?_
  refine zl_sld hH hL (6 * t + 2) (nI_add (6 * t) 2) (by omega) dL_law_1163 ?_
  refine zl_callM hH hM (c_X12_death l g (xs (6 * t + 1)) (xs (6 * t + 2))) mt_X12_death wd_1726 wd_1727 ci_11 wd_1725 rfl ⟨Nat.le_of_ble_eq_true rfl, Nat.le_of_ble_eq_true rfl⟩ rfl rfl ⟨by omega, by omega⟩ (rest := [.int (b2i r)]) rfl (Nat.le_of_ble_eq_true rfl) dL_law_1164 ?_
  refine zl_same hH (tgt := 2327) rfl dL_law_1167 (by decide) ?_
  refine zl_widen (Nat.le_add_right _ 1) (Nat.le_add_right _ 6) ?_
  exact ih k' n' v hr2
theorem lc_24 {p : Program} {l : Launch} {e : Env} {s : State} {m : MethodId} {args : Array Value} {below : List Frame} {meth : Method} {c : Code} {b L : Nat} {xs : Nat → Int32} {g : GT} {ao : Nat} {cO : ClassId} {Q : State → Prop} {cells slots t : Nat} {k n : ST} {v : Int64} (hH : HL p s m args meth c b L xs g ao cO) (hL : L ≤ 3072) (ht : 6 * t + 6 ≤ L) (hcl : cells + 1 ≤ room_1.cells ∧ slots + 6 ≤ room_1.slots) (hr : Rel t k n) (ih : ∀ (k n : ST) (v : Int64), Rel (t + 1) k n → ZL p l e room_1 s m args below meth c g ao cO Q (cells + 1) (slots + 6) k n v 2327 [(4, .int (nI (6 * t))), (0, .ref b), (1, .ref (g.2.1 10)), (2, .ref (g.2.1 11)), (3, .ref ao)] []) : ZL p l e room_1 s m args below meth c g ao cO Q cells slots k n v 1172 [(4, .int (nI (6 * t))), (0, .ref b), (1, .ref (g.2.1 10)), (2, .ref (g.2.1 11)), (3, .ref ao)] [] := by
  by_cases hz : xs (6 * t + 3) = 0
  · obtain ⟨r, k', n', hK, hM, hr2⟩ := pair_seal t k n (xs (6 * t + 1)) (xs (6 * t + 2)) false (by omega) hr
    refine zl_aload_n hH dL_law_1172 rfl 2 rfl ?_
    refine zl_aload_n hH dL_law_1173 rfl 1 rfl ?_
    refine zl_iload hH dL_law_1174 0 rfl ?_
    refine zl_iconst hH (x := 1) dL_law_1176 rfl ?_
    refine zl_iadd hH dL_law_1177 ?_
    refine zl_sld hH hL (6 * t + 1) (nI_add (6 * t) 1) (by omega) dL_law_1178 ?_
    refine zl_aload_n hH dL_law_1179 rfl 1 rfl ?_
    refine zl_iload hH dL_law_1180 0 rfl ?_
    refine zl_iconst hH (x := 2) dL_law_1182 rfl ?_
    refine zl_iadd hH dL_law_1183 ?_
    refine zl_sld hH hL (6 * t + 2) (nI_add (6 * t) 2) (by omega) dL_law_1184 ?_
    refine zl_aload_n hH dL_law_1185 rfl 1 rfl ?_
    refine zl_iload hH dL_law_1186 0 rfl ?_
    refine zl_iconst hH (x := 3) dL_law_1188 rfl ?_
    refine zl_iadd hH dL_law_1189 ?_
    refine zl_sld hH hL (6 * t + 3) (nI_add (6 * t) 3) (by omega) dL_law_1190 ?_
    refine zl_if0 hH (tgt := 1198) hz dL_law_1191 (by decide) ?_
    refine zl_iconst hH (x := 0) dL_law_1198 rfl ?_
    refine zl_callK hH hK (c_X11_seal l g (xs (6 * t + 1)) (xs (6 * t + 2)) false) mt_X11_seal wd_831 wd_832 ci_10 wd_830 rfl ⟨Nat.le_of_ble_eq_true rfl, Nat.le_of_ble_eq_true rfl⟩ rfl rfl ⟨by omega, by omega⟩ (rest := []) rfl (Nat.le_of_ble_eq_true rfl) dL_law_1199 ?_
    refine zl_aload_n hH dL_law_1202 rfl 3 rfl ?_
    refine zl_aload_n hH dL_law_1203 rfl 1 rfl ?_
    refine zl_iload hH dL_law_1204 0 rfl ?_
    refine zl_iconst hH (x := 1) dL_law_1206 rfl ?_
    refine zl_iadd hH dL_law_1207 ?_
    refine zl_sld hH hL (6 * t + 1) (nI_add (6 * t) 1) (by omega) dL_law_1208 ?_
    refine zl_aload_n hH dL_law_1209 rfl 1 rfl ?_
    refine zl_iload hH dL_law_1210 0 rfl ?_
    refine zl_iconst hH (x := 2) dL_law_1212 rfl ?_
    refine zl_iadd hH dL_law_1213 ?_
    refine zl_sld hH hL (6 * t + 2) (nI_add (6 * t) 2) (by omega) dL_law_1214 ?_
    refine zl_aload_n hH dL_law_1215 rfl 1 rfl ?_
    refine zl_iload hH dL_law_1216 0 rfl ?_
    refine zl_iconst hH (x := 3) dL_law_1218 rfl ?_
    refine zl_iadd hH dL_law_1219 ?_
    refine zl_sld hH hL (6 * t + 3) (nI_add (6 * t) 3) (by omega) dL_law_1220 ?_
    refine zl_if0 hH (tgt := 1228) hz dL_law_1221 (by decide) ?_
    refine zl_iconst hH (x := 0) dL_law_1228 rfl ?_
    refine zl_callM hH hM (c_X12_seal l g (xs (6 * t + 1)) (xs (6 * t + 2)) false) mt_X12_seal wd_1734 wd_1735 ci_11 wd_1733 rfl ⟨Nat.le_of_ble_eq_true rfl, Nat.le_of_ble_eq_true rfl⟩ rfl rfl ⟨by omega, by omega⟩ (rest := [.int r]) rfl (Nat.le_of_ble_eq_true rfl) dL_law_1229 ?_
    refine zl_same hH (tgt := 2327) rfl dL_law_1232 (by decide) ?_
    refine zl_widen (Nat.le_add_right _ 1) (Nat.le_add_right _ 6) ?_
    exact ih k' n' v hr2
  · obtain ⟨r, k', n', hK, hM, hr2⟩ := pair_seal t k n (xs (6 * t + 1)) (xs (6 * t + 2)) true (by omega) hr
    refine zl_aload_n hH dL_law_1172 rfl 2 rfl ?_
    refine zl_aload_n hH dL_law_1173 rfl 1 rfl ?_
    refine zl_iload hH dL_law_1174 0 rfl ?_
    refine zl_iconst hH (x := 1) dL_law_1176 rfl ?_
    refine zl_iadd hH dL_law_1177 ?_
    refine zl_sld hH hL (6 * t + 1) (nI_add (6 * t) 1) (by omega) dL_law_1178 ?_
    refine zl_aload_n hH dL_law_1179 rfl 1 rfl ?_
    refine zl_iload hH dL_law_1180 0 rfl ?_
    refine zl_iconst hH (x := 2) dL_law_1182 rfl ?_
    refine zl_iadd hH dL_law_1183 ?_
    refine zl_sld hH hL (6 * t + 2) (nI_add (6 * t) 2) (by omega) dL_law_1184 ?_
    refine zl_aload_n hH dL_law_1185 rfl 1 rfl ?_
    refine zl_iload hH dL_law_1186 0 rfl ?_
    refine zl_iconst hH (x := 3) dL_law_1188 rfl ?_
    refine zl_iadd hH dL_law_1189 ?_
    refine zl_sld hH hL (6 * t + 3) (nI_add (6 * t) 3) (by omega) dL_law_1190 ?_
    refine zl_if1 hH (tgt := 1198) hz dL_law_1191 (by decide) ?_
    refine zl_iconst hH (x := 1) dL_law_1194 rfl ?_
    refine zl_goto hH (tgt := 1199) dL_law_1195 (by decide) ?_
    refine zl_callK hH hK (c_X11_seal l g (xs (6 * t + 1)) (xs (6 * t + 2)) true) mt_X11_seal wd_831 wd_832 ci_10 wd_830 rfl ⟨Nat.le_of_ble_eq_true rfl, Nat.le_of_ble_eq_true rfl⟩ rfl rfl ⟨by omega, by omega⟩ (rest := []) rfl (Nat.le_of_ble_eq_true rfl) dL_law_1199 ?_
    refine zl_aload_n hH dL_law_1202 rfl 3 rfl ?_
    refine zl_aload_n hH dL_law_1203 rfl 1 rfl ?_
    refine zl_iload hH dL_law_1204 0 rfl ?_
    refine zl_iconst hH (x := 1) dL_law_1206 rfl ?_
    refine zl_iadd hH dL_law_1207 ?_
    refine zl_sld hH hL (6 * t + 1) (nI_add (6 * t) 1) (by omega) dL_law_1208 ?_
    refine zl_aload_n hH dL_law_1209 rfl 1 rfl ?_
    refine zl_iload hH dL_law_1210 0 rfl ?_
    refine zl_iconst hH (x := 2) dL_law_1212 rfl ?_
    refine zl_iadd hH dL_law_1213 ?_
    refine zl_sld hH hL (6 * t + 2) (nI_add (6 * t) 2) (by omega) dL_law_1214 ?_
    refine zl_aload_n hH dL_law_1215 rfl 1 rfl ?_
    refine zl_iload hH dL_law_1216 0 rfl ?_
    refine zl_iconst hH (x := 3) dL_law_1218 rfl ?_
    refine zl_iadd hH dL_law_1219 ?_
    refine zl_sld hH hL (6 * t + 3) (nI_add (6 * t) 3) (by omega) dL_law_1220 ?_
    refine zl_if1 hH (tgt := 1228) hz dL_law_1221 (by decide) ?_
    refine zl_iconst hH (x := 1) dL_law_1224 rfl ?_
    refine zl_goto hH (tgt := 1229) dL_law_1225 (by decide) ?_
    refine zl_callM hH hM (c_X12_seal l g (xs (6 * t + 1)) (xs (6 * t + 2)) true) mt_X12_seal wd_1734 wd_1735 ci_11 wd_1733 rfl ⟨Nat.le_of_ble_eq_true rfl, Nat.le_of_ble_eq_true rfl⟩ rfl rfl ⟨by omega, by omega⟩ (rest := [.int r]) rfl (Nat.le_of_ble_eq_true rfl) dL_law_1229 ?_
    refine zl_same hH (tgt := 2327) rfl dL_law_1232 (by decide) ?_
    refine zl_widen (Nat.le_add_right _ 1) (Nat.le_add_right _ 6) ?_
    exact ih k' n' v hr2
theorem lc_25 {p : Program} {l : Launch} {e : Env} {s : State} {m : MethodId} {args : Array Value} {below : List Frame} {meth : Method} {c : Code} {b L : Nat} {xs : Nat → Int32} {g : GT} {ao : Nat} {cO : ClassId} {Q : State → Prop} {cells slots t : Nat} {k n : ST} {v : Int64} (hH : HL p s m args meth c b L xs g ao cO) (hL : L ≤ 3072) (ht : 6 * t + 6 ≤ L) (hcl : cells + 1 ≤ room_1.cells ∧ slots + 6 ≤ room_1.slots) (hr : Rel t k n) (ih : ∀ (k n : ST) (v : Int64), Rel (t + 1) k n → ZL p l e room_1 s m args below meth c g ao cO Q (cells + 1) (slots + 6) k n v 2327 [(4, .int (nI (6 * t))), (0, .ref b), (1, .ref (g.2.1 10)), (2, .ref (g.2.1 11)), (3, .ref ao)] []) : ZL p l e room_1 s m args below meth c g ao cO Q cells slots k n v 1237 [(4, .int (nI (6 * t))), (0, .ref b), (1, .ref (g.2.1 10)), (2, .ref (g.2.1 11)), (3, .ref ao)] [] := by
  by_cases hz : xs (6 * t + 3) = 0
  · obtain ⟨r, k', n', hK, hM, hr2⟩ := pair_say t k n (xs (6 * t + 1)) (xs (6 * t + 2)) false (by omega) hr
    refine zl_aload_n hH dL_law_1237 rfl 2 rfl ?_
    refine zl_aload_n hH dL_law_1238 rfl 1 rfl ?_
    refine zl_iload hH dL_law_1239 0 rfl ?_
    refine zl_iconst hH (x := 1) dL_law_1241 rfl ?_
    refine zl_iadd hH dL_law_1242 ?_
    refine zl_sld hH hL (6 * t + 1) (nI_add (6 * t) 1) (by omega) dL_law_1243 ?_
    refine zl_aload_n hH dL_law_1244 rfl 1 rfl ?_
    refine zl_iload hH dL_law_1245 0 rfl ?_
    refine zl_iconst hH (x := 2) dL_law_1247 rfl ?_
    refine zl_iadd hH dL_law_1248 ?_
    refine zl_sld hH hL (6 * t + 2) (nI_add (6 * t) 2) (by omega) dL_law_1249 ?_
    refine zl_aload_n hH dL_law_1250 rfl 1 rfl ?_
    refine zl_iload hH dL_law_1251 0 rfl ?_
    refine zl_iconst hH (x := 3) dL_law_1253 rfl ?_
    refine zl_iadd hH dL_law_1254 ?_
    refine zl_sld hH hL (6 * t + 3) (nI_add (6 * t) 3) (by omega) dL_law_1255 ?_
    refine zl_if0 hH (tgt := 1263) hz dL_law_1256 (by decide) ?_
    refine zl_iconst hH (x := 0) dL_law_1263 rfl ?_
    refine zl_callK hH hK (c_X11_say l g (xs (6 * t + 1)) (xs (6 * t + 2)) false) mt_X11_say wd_839 wd_840 ci_10 wd_838 rfl ⟨Nat.le_of_ble_eq_true rfl, Nat.le_of_ble_eq_true rfl⟩ rfl rfl ⟨by omega, by omega⟩ (rest := []) rfl (Nat.le_of_ble_eq_true rfl) dL_law_1264 ?_
    refine zl_aload_n hH dL_law_1267 rfl 3 rfl ?_
    refine zl_aload_n hH dL_law_1268 rfl 1 rfl ?_
    refine zl_iload hH dL_law_1269 0 rfl ?_
    refine zl_iconst hH (x := 1) dL_law_1271 rfl ?_
    refine zl_iadd hH dL_law_1272 ?_
    refine zl_sld hH hL (6 * t + 1) (nI_add (6 * t) 1) (by omega) dL_law_1273 ?_
    refine zl_aload_n hH dL_law_1274 rfl 1 rfl ?_
    refine zl_iload hH dL_law_1275 0 rfl ?_
    refine zl_iconst hH (x := 2) dL_law_1277 rfl ?_
    refine zl_iadd hH dL_law_1278 ?_
    refine zl_sld hH hL (6 * t + 2) (nI_add (6 * t) 2) (by omega) dL_law_1279 ?_
    refine zl_aload_n hH dL_law_1280 rfl 1 rfl ?_
    refine zl_iload hH dL_law_1281 0 rfl ?_
    refine zl_iconst hH (x := 3) dL_law_1283 rfl ?_
    refine zl_iadd hH dL_law_1284 ?_
    refine zl_sld hH hL (6 * t + 3) (nI_add (6 * t) 3) (by omega) dL_law_1285 ?_
    refine zl_if0 hH (tgt := 1293) hz dL_law_1286 (by decide) ?_
    refine zl_iconst hH (x := 0) dL_law_1293 rfl ?_
    refine zl_callM hH hM (c_X12_say l g (xs (6 * t + 1)) (xs (6 * t + 2)) false) mt_X12_say wd_1738 wd_1739 ci_11 wd_1737 rfl ⟨Nat.le_of_ble_eq_true rfl, Nat.le_of_ble_eq_true rfl⟩ rfl rfl ⟨by omega, by omega⟩ (rest := [.int (b2i r)]) rfl (Nat.le_of_ble_eq_true rfl) dL_law_1294 ?_
    refine zl_same hH (tgt := 2327) rfl dL_law_1297 (by decide) ?_
    refine zl_widen (Nat.le_add_right _ 1) (Nat.le_add_right _ 6) ?_
    exact ih k' n' v hr2
  · obtain ⟨r, k', n', hK, hM, hr2⟩ := pair_say t k n (xs (6 * t + 1)) (xs (6 * t + 2)) true (by omega) hr
    refine zl_aload_n hH dL_law_1237 rfl 2 rfl ?_
    refine zl_aload_n hH dL_law_1238 rfl 1 rfl ?_
    refine zl_iload hH dL_law_1239 0 rfl ?_
    refine zl_iconst hH (x := 1) dL_law_1241 rfl ?_
    refine zl_iadd hH dL_law_1242 ?_
    refine zl_sld hH hL (6 * t + 1) (nI_add (6 * t) 1) (by omega) dL_law_1243 ?_
    refine zl_aload_n hH dL_law_1244 rfl 1 rfl ?_
    refine zl_iload hH dL_law_1245 0 rfl ?_
    refine zl_iconst hH (x := 2) dL_law_1247 rfl ?_
    refine zl_iadd hH dL_law_1248 ?_
    refine zl_sld hH hL (6 * t + 2) (nI_add (6 * t) 2) (by omega) dL_law_1249 ?_
    refine zl_aload_n hH dL_law_1250 rfl 1 rfl ?_
    refine zl_iload hH dL_law_1251 0 rfl ?_
    refine zl_iconst hH (x := 3) dL_law_1253 rfl ?_
    refine zl_iadd hH dL_law_1254 ?_
    refine zl_sld hH hL (6 * t + 3) (nI_add (6 * t) 3) (by omega) dL_law_1255 ?_
    refine zl_if1 hH (tgt := 1263) hz dL_law_1256 (by decide) ?_
    refine zl_iconst hH (x := 1) dL_law_1259 rfl ?_
    refine zl_goto hH (tgt := 1264) dL_law_1260 (by decide) ?_
    refine zl_callK hH hK (c_X11_say l g (xs (6 * t + 1)) (xs (6 * t + 2)) true) mt_X11_say wd_839 wd_840 ci_10 wd_838 rfl ⟨Nat.le_of_ble_eq_true rfl, Nat.le_of_ble_eq_true rfl⟩ rfl rfl ⟨by omega, by omega⟩ (rest := []) rfl (Nat.le_of_ble_eq_true rfl) dL_law_1264 ?_
    refine zl_aload_n hH dL_law_1267 rfl 3 rfl ?_
    refine zl_aload_n hH dL_law_1268 rfl 1 rfl ?_
    refine zl_iload hH dL_law_1269 0 rfl ?_
    refine zl_iconst hH (x := 1) dL_law_1271 rfl ?_
    refine zl_iadd hH dL_law_1272 ?_
    refine zl_sld hH hL (6 * t + 1) (nI_add (6 * t) 1) (by omega) dL_law_1273 ?_
    refine zl_aload_n hH dL_law_1274 rfl 1 rfl ?_
    refine zl_iload hH dL_law_1275 0 rfl ?_
    refine zl_iconst hH (x := 2) dL_law_1277 rfl ?_
    refine zl_iadd hH dL_law_1278 ?_
    refine zl_sld hH hL (6 * t + 2) (nI_add (6 * t) 2) (by omega) dL_law_1279 ?_
    refine zl_aload_n hH dL_law_1280 rfl 1 rfl ?_
    refine zl_iload hH dL_law_1281 0 rfl ?_
    refine zl_iconst hH (x := 3) dL_law_1283 rfl ?_
    refine zl_iadd hH dL_law_1284 ?_
    refine zl_sld hH hL (6 * t + 3) (nI_add (6 * t) 3) (by omega) dL_law_1285 ?_
    refine zl_if1 hH (tgt := 1293) hz dL_law_1286 (by decide) ?_
    refine zl_iconst hH (x := 1) dL_law_1289 rfl ?_
    refine zl_goto hH (tgt := 1294) dL_law_1290 (by decide) ?_
    refine zl_callM hH hM (c_X12_say l g (xs (6 * t + 1)) (xs (6 * t + 2)) true) mt_X12_say wd_1738 wd_1739 ci_11 wd_1737 rfl ⟨Nat.le_of_ble_eq_true rfl, Nat.le_of_ble_eq_true rfl⟩ rfl rfl ⟨by omega, by omega⟩ (rest := [.int (b2i r)]) rfl (Nat.le_of_ble_eq_true rfl) dL_law_1294 ?_
    refine zl_same hH (tgt := 2327) rfl dL_law_1297 (by decide) ?_
    refine zl_widen (Nat.le_add_right _ 1) (Nat.le_add_right _ 6) ?_
    exact ih k' n' v hr2
theorem lc_26 {p : Program} {l : Launch} {e : Env} {s : State} {m : MethodId} {args : Array Value} {below : List Frame} {meth : Method} {c : Code} {b L : Nat} {xs : Nat → Int32} {g : GT} {ao : Nat} {cO : ClassId} {Q : State → Prop} {cells slots t : Nat} {k n : ST} {v : Int64} (hH : HL p s m args meth c b L xs g ao cO) (hL : L ≤ 3072) (ht : 6 * t + 6 ≤ L) (hcl : cells + 1 ≤ room_1.cells ∧ slots + 6 ≤ room_1.slots) (hr : Rel t k n) (ih : ∀ (k n : ST) (v : Int64), Rel (t + 1) k n → ZL p l e room_1 s m args below meth c g ao cO Q (cells + 1) (slots + 6) k n v 2327 [(4, .int (nI (6 * t))), (0, .ref b), (1, .ref (g.2.1 10)), (2, .ref (g.2.1 11)), (3, .ref ao)] []) : ZL p l e room_1 s m args below meth c g ao cO Q cells slots k n v 1302 [(4, .int (nI (6 * t))), (0, .ref b), (1, .ref (g.2.1 10)), (2, .ref (g.2.1 11)), (3, .ref ao)] [] := by
  by_cases hz : xs (6 * t + 3) = 0
  · obtain ⟨r, k', n', hK, hM, hr2⟩ := pair_mourn t k n (xs (6 * t + 1)) (xs (6 * t + 2)) false (by omega) hr
    refine zl_aload_n hH dL_law_1302 rfl 2 rfl ?_
    refine zl_aload_n hH dL_law_1303 rfl 1 rfl ?_
    refine zl_iload hH dL_law_1304 0 rfl ?_
    refine zl_iconst hH (x := 1) dL_law_1306 rfl ?_
    refine zl_iadd hH dL_law_1307 ?_
    refine zl_sld hH hL (6 * t + 1) (nI_add (6 * t) 1) (by omega) dL_law_1308 ?_
    refine zl_aload_n hH dL_law_1309 rfl 1 rfl ?_
    refine zl_iload hH dL_law_1310 0 rfl ?_
    refine zl_iconst hH (x := 2) dL_law_1312 rfl ?_
    refine zl_iadd hH dL_law_1313 ?_
    refine zl_sld hH hL (6 * t + 2) (nI_add (6 * t) 2) (by omega) dL_law_1314 ?_
    refine zl_aload_n hH dL_law_1315 rfl 1 rfl ?_
    refine zl_iload hH dL_law_1316 0 rfl ?_
    refine zl_iconst hH (x := 3) dL_law_1318 rfl ?_
    refine zl_iadd hH dL_law_1319 ?_
    refine zl_sld hH hL (6 * t + 3) (nI_add (6 * t) 3) (by omega) dL_law_1320 ?_
    refine zl_if0 hH (tgt := 1328) hz dL_law_1321 (by decide) ?_
    refine zl_iconst hH (x := 0) dL_law_1328 rfl ?_
    refine zl_callK hH hK (c_X11_mourn l g (xs (6 * t + 1)) (xs (6 * t + 2)) false) mt_X11_mourn wd_851 wd_852 ci_10 wd_850 rfl ⟨Nat.le_of_ble_eq_true rfl, Nat.le_of_ble_eq_true rfl⟩ rfl rfl ⟨by omega, by omega⟩ (rest := []) rfl (Nat.le_of_ble_eq_true rfl) dL_law_1329 ?_
    refine zl_aload_n hH dL_law_1332 rfl 3 rfl ?_
    refine zl_aload_n hH dL_law_1333 rfl 1 rfl ?_
    refine zl_iload hH dL_law_1334 0 rfl ?_
    refine zl_iconst hH (x := 1) dL_law_1336 rfl ?_
    refine zl_iadd hH dL_law_1337 ?_
    refine zl_sld hH hL (6 * t + 1) (nI_add (6 * t) 1) (by omega) dL_law_1338 ?_
    refine zl_aload_n hH dL_law_1339 rfl 1 rfl ?_
    refine zl_iload hH dL_law_1340 0 rfl ?_
    refine zl_iconst hH (x := 2) dL_law_1342 rfl ?_
    refine zl_iadd hH dL_law_1343 ?_
    refine zl_sld hH hL (6 * t + 2) (nI_add (6 * t) 2) (by omega) dL_law_1344 ?_
    refine zl_aload_n hH dL_law_1345 rfl 1 rfl ?_
    refine zl_iload hH dL_law_1346 0 rfl ?_
    refine zl_iconst hH (x := 3) dL_law_1348 rfl ?_
    refine zl_iadd hH dL_law_1349 ?_
    refine zl_sld hH hL (6 * t + 3) (nI_add (6 * t) 3) (by omega) dL_law_1350 ?_
    refine zl_if0 hH (tgt := 1358) hz dL_law_1351 (by decide) ?_
    refine zl_iconst hH (x := 0) dL_law_1358 rfl ?_
    refine zl_callM hH hM (c_X12_mourn l g (xs (6 * t + 1)) (xs (6 * t + 2)) false) mt_X12_mourn wd_1750 wd_1751 ci_11 wd_1749 rfl ⟨Nat.le_of_ble_eq_true rfl, Nat.le_of_ble_eq_true rfl⟩ rfl rfl ⟨by omega, by omega⟩ (rest := [.int (b2i r)]) rfl (Nat.le_of_ble_eq_true rfl) dL_law_1359 ?_
    refine zl_same hH (tgt := 2327) rfl dL_law_1362 (by decide) ?_
    refine zl_widen (Nat.le_add_right _ 1) (Nat.le_add_right _ 6) ?_
    exact ih k' n' v hr2
  · obtain ⟨r, k', n', hK, hM, hr2⟩ := pair_mourn t k n (xs (6 * t + 1)) (xs (6 * t + 2)) true (by omega) hr
    refine zl_aload_n hH dL_law_1302 rfl 2 rfl ?_
    refine zl_aload_n hH dL_law_1303 rfl 1 rfl ?_
    refine zl_iload hH dL_law_1304 0 rfl ?_
    refine zl_iconst hH (x := 1) dL_law_1306 rfl ?_
    refine zl_iadd hH dL_law_1307 ?_
    refine zl_sld hH hL (6 * t + 1) (nI_add (6 * t) 1) (by omega) dL_law_1308 ?_
    refine zl_aload_n hH dL_law_1309 rfl 1 rfl ?_
    refine zl_iload hH dL_law_1310 0 rfl ?_
    refine zl_iconst hH (x := 2) dL_law_1312 rfl ?_
    refine zl_iadd hH dL_law_1313 ?_
    refine zl_sld hH hL (6 * t + 2) (nI_add (6 * t) 2) (by omega) dL_law_1314 ?_
    refine zl_aload_n hH dL_law_1315 rfl 1 rfl ?_
    refine zl_iload hH dL_law_1316 0 rfl ?_
    refine zl_iconst hH (x := 3) dL_law_1318 rfl ?_
    refine zl_iadd hH dL_law_1319 ?_
    refine zl_sld hH hL (6 * t + 3) (nI_add (6 * t) 3) (by omega) dL_law_1320 ?_
    refine zl_if1 hH (tgt := 1328) hz dL_law_1321 (by decide) ?_
    refine zl_iconst hH (x := 1) dL_law_1324 rfl ?_
    refine zl_goto hH (tgt := 1329) dL_law_1325 (by decide) ?_
    refine zl_callK hH hK (c_X11_mourn l g (xs (6 * t + 1)) (xs (6 * t + 2)) true) mt_X11_mourn wd_851 wd_852 ci_10 wd_850 rfl ⟨Nat.le_of_ble_eq_true rfl, Nat.le_of_ble_eq_true rfl⟩ rfl rfl ⟨by omega, by omega⟩ (rest := []) rfl (Nat.le_of_ble_eq_true rfl) dL_law_1329 ?_
    refine zl_aload_n hH dL_law_1332 rfl 3 rfl ?_
    refine zl_aload_n hH dL_law_1333 rfl 1 rfl ?_
    refine zl_iload hH dL_law_1334 0 rfl ?_
    refine zl_iconst hH (x := 1) dL_law_1336 rfl ?_
    refine zl_iadd hH dL_law_1337 ?_
    refine zl_sld hH hL (6 * t + 1) (nI_add (6 * t) 1) (by omega) dL_law_1338 ?_
    refine zl_aload_n hH dL_law_1339 rfl 1 rfl ?_
    refine zl_iload hH dL_law_1340 0 rfl ?_
    refine zl_iconst hH (x := 2) dL_law_1342 rfl ?_
    refine zl_iadd hH dL_law_1343 ?_
    refine zl_sld hH hL (6 * t + 2) (nI_add (6 * t) 2) (by omega) dL_law_1344 ?_
    refine zl_aload_n hH dL_law_1345 rfl 1 rfl ?_
    refine zl_iload hH dL_law_1346 0 rfl ?_
    refine zl_iconst hH (x := 3) dL_law_1348 rfl ?_
    refine zl_iadd hH dL_law_1349 ?_
    refine zl_sld hH hL (6 * t + 3) (nI_add (6 * t) 3) (by omega) dL_law_1350 ?_
    refine zl_if1 hH (tgt := 1358) hz dL_law_1351 (by decide) ?_
    refine zl_iconst hH (x := 1) dL_law_1354 rfl ?_
    refine zl_goto hH (tgt := 1359) dL_law_1355 (by decide) ?_
    refine zl_callM hH hM (c_X12_mourn l g (xs (6 * t + 1)) (xs (6 * t + 2)) true) mt_X12_mourn wd_1750 wd_1751 ci_11 wd_1749 rfl ⟨Nat.le_of_ble_eq_true rfl, Nat.le_of_ble_eq_true rfl⟩ rfl rfl ⟨by omega, by omega⟩ (rest := [.int (b2i r)]) rfl (Nat.le_of_ble_eq_true rfl) dL_law_1359 ?_
    refine zl_same hH (tgt := 2327) rfl dL_law_1362 (by decide) ?_
    refine zl_widen (Nat.le_add_right _ 1) (Nat.le_add_right _ 6) ?_
    exact ih k' n' v hr2
theorem lc_27 {p : Program} {l : Launch} {e : Env} {s : State} {m : MethodId} {args : Array Value} {below : List Frame} {meth : Method} {c : Code} {b L : Nat} {xs : Nat → Int32} {g : GT} {ao : Nat} {cO : ClassId} {Q : State → Prop} {cells slots t : Nat} {k n : ST} {v : Int64} (hH : HL p s m args meth c b L xs g ao cO) (hL : L ≤ 3072) (ht : 6 * t + 6 ≤ L) (hcl : cells + 1 ≤ room_1.cells ∧ slots + 6 ≤ room_1.slots) (hr : Rel t k n) (ih : ∀ (k n : ST) (v : Int64), Rel (t + 1) k n → ZL p l e room_1 s m args below meth c g ao cO Q (cells + 1) (slots + 6) k n v 2327 [(4, .int (nI (6 * t))), (0, .ref b), (1, .ref (g.2.1 10)), (2, .ref (g.2.1 11)), (3, .ref ao)] []) : ZL p l e room_1 s m args below meth c g ao cO Q cells slots k n v 1367 [(4, .int (nI (6 * t))), (0, .ref b), (1, .ref (g.2.1 10)), (2, .ref (g.2.1 11)), (3, .ref ao)] [] := by
  obtain ⟨r, k', n', hK, hM, hr2⟩ := pair_ask t k n (xs (6 * t + 1)) (by omega) hr
  refine zl_aload_n hH dL_law_1367 rfl 2 rfl ?_
  refine zl_aload_n hH dL_law_1368 rfl 1 rfl ?_
  refine zl_iload hH dL_law_1369 0 rfl ?_
  refine zl_iconst hH (x := 1) dL_law_1371 rfl ?_
  refine zl_iadd hH dL_law_1372 ?_
  refine zl_sld hH hL (6 * t + 1) (nI_add (6 * t) 1) (by omega) dL_law_1373 ?_
  refine zl_callK hH hK (c_X11_ask l g (xs (6 * t + 1))) mt_X11_ask wd_858 wd_859 ci_10 wd_857 rfl ⟨Nat.le_of_ble_eq_true rfl, Nat.le_of_ble_eq_true rfl⟩ rfl rfl ⟨by omega, by omega⟩ (rest := []) rfl (Nat.le_of_ble_eq_true rfl) dL_law_1374 ?_
  refine zl_aload_n hH dL_law_1377 rfl 3 rfl ?_
  refine zl_aload_n hH dL_law_1378 rfl 1 rfl ?_
  refine zl_iload hH dL_law_1379 0 rfl ?_
  refine zl_iconst hH (x := 1) dL_law_1381 rfl ?_
  refine zl_iadd hH dL_law_1382 ?_
  refine zl_sld hH hL (6 * t + 1) (nI_add (6 * t) 1) (by omega) dL_law_1383 ?_
  refine zl_callM hH hM (c_X12_ask l g (xs (6 * t + 1))) mt_X12_ask wd_1754 wd_1755 ci_11 wd_1753 rfl ⟨Nat.le_of_ble_eq_true rfl, Nat.le_of_ble_eq_true rfl⟩ rfl rfl ⟨by omega, by omega⟩ (rest := [.int (b2i r)]) rfl (Nat.le_of_ble_eq_true rfl) dL_law_1384 ?_
  refine zl_same hH (tgt := 2327) rfl dL_law_1387 (by decide) ?_
  refine zl_widen (Nat.le_add_right _ 1) (Nat.le_add_right _ 6) ?_
  exact ih k' n' v hr2
theorem lc_28 {p : Program} {l : Launch} {e : Env} {s : State} {m : MethodId} {args : Array Value} {below : List Frame} {meth : Method} {c : Code} {b L : Nat} {xs : Nat → Int32} {g : GT} {ao : Nat} {cO : ClassId} {Q : State → Prop} {cells slots t : Nat} {k n : ST} {v : Int64} (hH : HL p s m args meth c b L xs g ao cO) (hL : L ≤ 3072) (ht : 6 * t + 6 ≤ L) (hcl : cells + 1 ≤ room_1.cells ∧ slots + 6 ≤ room_1.slots) (hr : Rel t k n) (ih : ∀ (k n : ST) (v : Int64), Rel (t + 1) k n → ZL p l e room_1 s m args below meth c g ao cO Q (cells + 1) (slots + 6) k n v 2327 [(4, .int (nI (6 * t))), (0, .ref b), (1, .ref (g.2.1 10)), (2, .ref (g.2.1 11)), (3, .ref ao)] []) : ZL p l e room_1 s m args below meth c g ao cO Q cells slots k n v 1392 [(4, .int (nI (6 * t))), (0, .ref b), (1, .ref (g.2.1 10)), (2, .ref (g.2.1 11)), (3, .ref ao)] [] := by
  obtain ⟨r, k', n', hK, hM, hr2⟩ := pair_may t k n (xs (6 * t + 1)) (xs (6 * t + 2)) (xs (6 * t + 3)) (by omega) hr
  refine zl_aload_n hH dL_law_1392 rfl 2 rfl ?_
  refine zl_aload_n hH dL_law_1393 rfl 1 rfl ?_
  refine zl_iload hH dL_law_1394 0 rfl ?_
  refine zl_iconst hH (x := 1) dL_law_1396 rfl ?_
  refine zl_iadd hH dL_law_1397 ?_
  refine zl_sld hH hL (6 * t + 1) (nI_add (6 * t) 1) (by omega) dL_law_1398 ?_
  refine zl_aload_n hH dL_law_1399 rfl 1 rfl ?_
  refine zl_iload hH dL_law_1400 0 rfl ?_
  refine zl_iconst hH (x := 2) dL_law_1402 rfl ?_
  refine zl_iadd hH dL_law_1403 ?_
  refine zl_sld hH hL (6 * t + 2) (nI_add (6 * t) 2) (by omega) dL_law_1404 ?_
  refine zl_aload_n hH dL_law_1405 rfl 1 rfl ?_
  refine zl_iload hH dL_law_1406 0 rfl ?_
  refine zl_iconst hH (x := 3) dL_law_1408 rfl ?_
  refine zl_iadd hH dL_law_1409 ?_
  refine zl_sld hH hL (6 * t + 3) (nI_add (6 * t) 3) (by omega) dL_law_1410 ?_
  refine zl_callK hH hK (c_X11_may l g (xs (6 * t + 1)) (xs (6 * t + 2)) (xs (6 * t + 3))) mt_X11_may wd_862 wd_863 ci_10 wd_861 rfl ⟨Nat.le_of_ble_eq_true rfl, Nat.le_of_ble_eq_true rfl⟩ rfl rfl ⟨by omega, by omega⟩ (rest := []) rfl (Nat.le_of_ble_eq_true rfl) dL_law_1411 ?_
  refine zl_aload_n hH dL_law_1414 rfl 3 rfl ?_
  refine zl_aload_n hH dL_law_1415 rfl 1 rfl ?_
  refine zl_iload hH dL_law_1416 0 rfl ?_
  refine zl_iconst hH (x := 1) dL_law_1418 rfl ?_
  refine zl_iadd hH dL_law_1419 ?_
  refine zl_sld hH hL (6 * t + 1) (nI_add (6 * t) 1) (by omega) dL_law_1420 ?_
  refine zl_aload_n hH dL_law_1421 rfl 1 rfl ?_
  refine zl_iload hH dL_law_1422 0 rfl ?_
  refine zl_iconst hH (x := 2) dL_law_1424 rfl ?_
  refine zl_iadd hH dL_law_1425 ?_
  refine zl_sld hH hL (6 * t + 2) (nI_add (6 * t) 2) (by omega) dL_law_1426 ?_
  refine zl_aload_n hH dL_law_1427 rfl 1 rfl ?_
  refine zl_iload hH dL_law_1428 0 rfl ?_
  refine zl_iconst hH (x := 3) dL_law_1430 rfl ?_
  refine zl_iadd hH dL_law_1431 ?_
  refine zl_sld hH hL (6 * t + 3) (nI_add (6 * t) 3) (by omega) dL_law_1432 ?_
  refine zl_callM hH hM (c_X12_may l g (xs (6 * t + 1)) (xs (6 * t + 2)) (xs (6 * t + 3))) mt_X12_may wd_1758 wd_1759 ci_11 wd_1757 rfl ⟨Nat.le_of_ble_eq_true rfl, Nat.le_of_ble_eq_true rfl⟩ rfl rfl ⟨by omega, by omega⟩ (rest := [.int r]) rfl (Nat.le_of_ble_eq_true rfl) dL_law_1433 ?_
  refine zl_same hH (tgt := 2327) rfl dL_law_1436 (by decide) ?_
  refine zl_widen (Nat.le_add_right _ 1) (Nat.le_add_right _ 6) ?_
  exact ih k' n' v hr2
theorem lc_29 {p : Program} {l : Launch} {e : Env} {s : State} {m : MethodId} {args : Array Value} {below : List Frame} {meth : Method} {c : Code} {b L : Nat} {xs : Nat → Int32} {g : GT} {ao : Nat} {cO : ClassId} {Q : State → Prop} {cells slots t : Nat} {k n : ST} {v : Int64} (hH : HL p s m args meth c b L xs g ao cO) (hL : L ≤ 3072) (ht : 6 * t + 6 ≤ L) (hcl : cells + 1 ≤ room_1.cells ∧ slots + 6 ≤ room_1.slots) (hr : Rel t k n) (ih : ∀ (k n : ST) (v : Int64), Rel (t + 1) k n → ZL p l e room_1 s m args below meth c g ao cO Q (cells + 1) (slots + 6) k n v 2327 [(4, .int (nI (6 * t))), (0, .ref b), (1, .ref (g.2.1 10)), (2, .ref (g.2.1 11)), (3, .ref ao)] []) : ZL p l e room_1 s m args below meth c g ao cO Q cells slots k n v 1441 [(4, .int (nI (6 * t))), (0, .ref b), (1, .ref (g.2.1 10)), (2, .ref (g.2.1 11)), (3, .ref ao)] [] := by
  obtain ⟨r, k', n', hK, hM, hr2⟩ := pair_dead t k n (xs (6 * t + 1)) (xs (6 * t + 2)) (xs (6 * t + 3)) (by omega) hr
  refine zl_aload_n hH dL_law_1441 rfl 2 rfl ?_
  refine zl_aload_n hH dL_law_1442 rfl 1 rfl ?_
  refine zl_iload hH dL_law_1443 0 rfl ?_
  refine zl_iconst hH (x := 1) dL_law_1445 rfl ?_
  refine zl_iadd hH dL_law_1446 ?_
  refine zl_sld hH hL (6 * t + 1) (nI_add (6 * t) 1) (by omega) dL_law_1447 ?_
  refine zl_aload_n hH dL_law_1448 rfl 1 rfl ?_
  refine zl_iload hH dL_law_1449 0 rfl ?_
  refine zl_iconst hH (x := 2) dL_law_1451 rfl ?_
  refine zl_iadd hH dL_law_1452 ?_
  refine zl_sld hH hL (6 * t + 2) (nI_add (6 * t) 2) (by omega) dL_law_1453 ?_
  refine zl_aload_n hH dL_law_1454 rfl 1 rfl ?_
  refine zl_iload hH dL_law_1455 0 rfl ?_
  refine zl_iconst hH (x := 3) dL_law_1457 rfl ?_
  refine zl_iadd hH dL_law_1458 ?_
  refine zl_sld hH hL (6 * t + 3) (nI_add (6 * t) 3) (by omega) dL_law_1459 ?_
  refine zl_callK hH hK (c_X11_dead l g (xs (6 * t + 1)) (xs (6 * t + 2)) (xs (6 * t + 3))) mt_X11_dead wd_917 wd_918 ci_10 wd_916 rfl ⟨Nat.le_of_ble_eq_true rfl, Nat.le_of_ble_eq_true rfl⟩ rfl rfl ⟨by omega, by omega⟩ (rest := []) rfl (Nat.le_of_ble_eq_true rfl) dL_law_1460 ?_
  refine zl_aload_n hH dL_law_1463 rfl 3 rfl ?_
  refine zl_aload_n hH dL_law_1464 rfl 1 rfl ?_
  refine zl_iload hH dL_law_1465 0 rfl ?_
  refine zl_iconst hH (x := 1) dL_law_1467 rfl ?_
  refine zl_iadd hH dL_law_1468 ?_
  refine zl_sld hH hL (6 * t + 1) (nI_add (6 * t) 1) (by omega) dL_law_1469 ?_
  refine zl_aload_n hH dL_law_1470 rfl 1 rfl ?_
  refine zl_iload hH dL_law_1471 0 rfl ?_
  refine zl_iconst hH (x := 2) dL_law_1473 rfl ?_
  refine zl_iadd hH dL_law_1474 ?_
  refine zl_sld hH hL (6 * t + 2) (nI_add (6 * t) 2) (by omega) dL_law_1475 ?_
  refine zl_aload_n hH dL_law_1476 rfl 1 rfl ?_
  refine zl_iload hH dL_law_1477 0 rfl ?_
  refine zl_iconst hH (x := 3) dL_law_1479 rfl ?_
  refine zl_iadd hH dL_law_1480 ?_
  refine zl_sld hH hL (6 * t + 3) (nI_add (6 * t) 3) (by omega) dL_law_1481 ?_
  refine zl_callM hH hM (c_X12_dead l g (xs (6 * t + 1)) (xs (6 * t + 2)) (xs (6 * t + 3))) mt_X12_dead wd_1777 wd_1778 ci_11 wd_1776 rfl ⟨Nat.le_of_ble_eq_true rfl, Nat.le_of_ble_eq_true rfl⟩ rfl rfl ⟨by omega, by omega⟩ (rest := [.int r]) rfl (Nat.le_of_ble_eq_true rfl) dL_law_1482 ?_
  refine zl_same hH (tgt := 2327) rfl dL_law_1485 (by decide) ?_
  refine zl_widen (Nat.le_add_right _ 1) (Nat.le_add_right _ 6) ?_
  exact ih k' n' v hr2
theorem lc_30 {p : Program} {l : Launch} {e : Env} {s : State} {m : MethodId} {args : Array Value} {below : List Frame} {meth : Method} {c : Code} {b L : Nat} {xs : Nat → Int32} {g : GT} {ao : Nat} {cO : ClassId} {Q : State → Prop} {cells slots t : Nat} {k n : ST} {v : Int64} (hH : HL p s m args meth c b L xs g ao cO) (hL : L ≤ 3072) (ht : 6 * t + 6 ≤ L) (hcl : cells + 1 ≤ room_1.cells ∧ slots + 6 ≤ room_1.slots) (hr : Rel t k n) (ih : ∀ (k n : ST) (v : Int64), Rel (t + 1) k n → ZL p l e room_1 s m args below meth c g ao cO Q (cells + 1) (slots + 6) k n v 2327 [(4, .int (nI (6 * t))), (0, .ref b), (1, .ref (g.2.1 10)), (2, .ref (g.2.1 11)), (3, .ref ao)] []) : ZL p l e room_1 s m args below meth c g ao cO Q cells slots k n v 1490 [(4, .int (nI (6 * t))), (0, .ref b), (1, .ref (g.2.1 10)), (2, .ref (g.2.1 11)), (3, .ref ao)] [] := by
  obtain ⟨r, k', n', hK, hM, hr2⟩ := pair_unseal t k n (xs (6 * t + 1)) (by omega) hr
  refine zl_aload_n hH dL_law_1490 rfl 2 rfl ?_
  refine zl_aload_n hH dL_law_1491 rfl 1 rfl ?_
  refine zl_iload hH dL_law_1492 0 rfl ?_
  refine zl_iconst hH (x := 1) dL_law_1494 rfl ?_
  refine zl_iadd hH dL_law_1495 ?_
  refine zl_sld hH hL (6 * t + 1) (nI_add (6 * t) 1) (by omega) dL_law_1496 ?_
  refine zl_callK hH hK (c_X11_unseal l g (xs (6 * t + 1))) mt_X11_unseal wd_921 wd_922 ci_10 wd_920 rfl ⟨Nat.le_of_ble_eq_true rfl, Nat.le_of_ble_eq_true rfl⟩ rfl rfl ⟨by omega, by omega⟩ (rest := []) rfl (Nat.le_of_ble_eq_true rfl) dL_law_1497 ?_
  refine zl_aload_n hH dL_law_1500 rfl 3 rfl ?_
  refine zl_aload_n hH dL_law_1501 rfl 1 rfl ?_
  refine zl_iload hH dL_law_1502 0 rfl ?_
  refine zl_iconst hH (x := 1) dL_law_1504 rfl ?_
  refine zl_iadd hH dL_law_1505 ?_
  refine zl_sld hH hL (6 * t + 1) (nI_add (6 * t) 1) (by omega) dL_law_1506 ?_
  refine zl_callM hH hM (c_X12_unseal l g (xs (6 * t + 1))) mt_X12_unseal wd_1781 wd_1782 ci_11 wd_1780 rfl ⟨Nat.le_of_ble_eq_true rfl, Nat.le_of_ble_eq_true rfl⟩ rfl rfl ⟨by omega, by omega⟩ (rest := [.int r]) rfl (Nat.le_of_ble_eq_true rfl) dL_law_1507 ?_
  refine zl_same hH (tgt := 2327) rfl dL_law_1510 (by decide) ?_
  refine zl_widen (Nat.le_add_right _ 1) (Nat.le_add_right _ 6) ?_
  exact ih k' n' v hr2
theorem lc_31 {p : Program} {l : Launch} {e : Env} {s : State} {m : MethodId} {args : Array Value} {below : List Frame} {meth : Method} {c : Code} {b L : Nat} {xs : Nat → Int32} {g : GT} {ao : Nat} {cO : ClassId} {Q : State → Prop} {cells slots t : Nat} {k n : ST} {v : Int64} (hH : HL p s m args meth c b L xs g ao cO) (hL : L ≤ 3072) (ht : 6 * t + 6 ≤ L) (hcl : cells + 1 ≤ room_1.cells ∧ slots + 6 ≤ room_1.slots) (hr : Rel t k n) (ih : ∀ (k n : ST) (v : Int64), Rel (t + 1) k n → ZL p l e room_1 s m args below meth c g ao cO Q (cells + 1) (slots + 6) k n v 2327 [(4, .int (nI (6 * t))), (0, .ref b), (1, .ref (g.2.1 10)), (2, .ref (g.2.1 11)), (3, .ref ao)] []) : ZL p l e room_1 s m args below meth c g ao cO Q cells slots k n v 1515 [(4, .int (nI (6 * t))), (0, .ref b), (1, .ref (g.2.1 10)), (2, .ref (g.2.1 11)), (3, .ref ao)] [] := by
  obtain ⟨r, k', n', hK, hM, hr2⟩ := pair_sign t k n (xs (6 * t + 1)) (xs (6 * t + 2)) (xs (6 * t + 3)) (xs (6 * t + 4)) (by omega) hr
  refine zl_aload_n hH dL_law_1515 rfl 2 rfl ?_
  refine zl_aload_n hH dL_law_1516 rfl 1 rfl ?_
  refine zl_iload hH dL_law_1517 0 rfl ?_
  refine zl_iconst hH (x := 1) dL_law_1519 rfl ?_
  refine zl_iadd hH dL_law_1520 ?_
  refine zl_sld hH hL (6 * t + 1) (nI_add (6 * t) 1) (by omega) dL_law_1521 ?_
  refine zl_aload_n hH dL_law_1522 rfl 1 rfl ?_
  refine zl_iload hH dL_law_1523 0 rfl ?_
  refine zl_iconst hH (x := 2) dL_law_1525 rfl ?_
  refine zl_iadd hH dL_law_1526 ?_
  refine zl_sld hH hL (6 * t + 2) (nI_add (6 * t) 2) (by omega) dL_law_1527 ?_
  refine zl_aload_n hH dL_law_1528 rfl 1 rfl ?_
  refine zl_iload hH dL_law_1529 0 rfl ?_
  refine zl_iconst hH (x := 3) dL_law_1531 rfl ?_
  refine zl_iadd hH dL_law_1532 ?_
  refine zl_sld hH hL (6 * t + 3) (nI_add (6 * t) 3) (by omega) dL_law_1533 ?_
  refine zl_aload_n hH dL_law_1534 rfl 1 rfl ?_
  refine zl_iload hH dL_law_1535 0 rfl ?_
  refine zl_iconst hH (x := 4) dL_law_1537 rfl ?_
  refine zl_iadd hH dL_law_1538 ?_
  refine zl_sld hH hL (6 * t + 4) (nI_add (6 * t) 4) (by omega) dL_law_1539 ?_
  refine zl_callK hH hK (c_X11_sign l g (xs (6 * t + 1)) (xs (6 * t + 2)) (xs (6 * t + 3)) (xs (6 * t + 4))) mt_X11_sign wd_925 wd_926 ci_10 wd_924 rfl ⟨Nat.le_of_ble_eq_true rfl, Nat.le_of_ble_eq_true rfl⟩ rfl rfl ⟨by omega, by omega⟩ (rest := []) rfl (Nat.le_of_ble_eq_true rfl) dL_law_1540 ?_
  refine zl_aload_n hH dL_law_1543 rfl 3 rfl ?_
  refine zl_aload_n hH dL_law_1544 rfl 1 rfl ?_
  refine zl_iload hH dL_law_1545 0 rfl ?_
  refine zl_iconst hH (x := 1) dL_law_1547 rfl ?_
  refine zl_iadd hH dL_law_1548 ?_
  refine zl_sld hH hL (6 * t + 1) (nI_add (6 * t) 1) (by omega) dL_law_1549 ?_
  refine zl_aload_n hH dL_law_1550 rfl 1 rfl ?_
  refine zl_iload hH dL_law_1551 0 rfl ?_
  refine zl_iconst hH (x := 2) dL_law_1553 rfl ?_
  refine zl_iadd hH dL_law_1554 ?_
  refine zl_sld hH hL (6 * t + 2) (nI_add (6 * t) 2) (by omega) dL_law_1555 ?_
  refine zl_aload_n hH dL_law_1556 rfl 1 rfl ?_
  refine zl_iload hH dL_law_1557 0 rfl ?_
  refine zl_iconst hH (x := 3) dL_law_1559 rfl ?_
  refine zl_iadd hH dL_law_1560 ?_
  refine zl_sld hH hL (6 * t + 3) (nI_add (6 * t) 3) (by omega) dL_law_1561 ?_
  refine zl_aload_n hH dL_law_1562 rfl 1 rfl ?_
  refine zl_iload hH dL_law_1563 0 rfl ?_
  refine zl_iconst hH (x := 4) dL_law_1565 rfl ?_
  refine zl_iadd hH dL_law_1566 ?_
  refine zl_sld hH hL (6 * t + 4) (nI_add (6 * t) 4) (by omega) dL_law_1567 ?_
  refine zl_callM hH hM (c_X12_sign l g (xs (6 * t + 1)) (xs (6 * t + 2)) (xs (6 * t + 3)) (xs (6 * t + 4))) mt_X12_sign wd_1785 wd_1786 ci_11 wd_1784 rfl ⟨Nat.le_of_ble_eq_true rfl, Nat.le_of_ble_eq_true rfl⟩ rfl rfl ⟨by omega, by omega⟩ (rest := [.int r]) rfl (Nat.le_of_ble_eq_true rfl) dL_law_1568 ?_
  refine zl_same hH (tgt := 2327) rfl dL_law_1571 (by decide) ?_
  refine zl_widen (Nat.le_add_right _ 1) (Nat.le_add_right _ 6) ?_
  exact ih k' n' v hr2
theorem lc_32 {p : Program} {l : Launch} {e : Env} {s : State} {m : MethodId} {args : Array Value} {below : List Frame} {meth : Method} {c : Code} {b L : Nat} {xs : Nat → Int32} {g : GT} {ao : Nat} {cO : ClassId} {Q : State → Prop} {cells slots t : Nat} {k n : ST} {v : Int64} (hH : HL p s m args meth c b L xs g ao cO) (hL : L ≤ 3072) (ht : 6 * t + 6 ≤ L) (hcl : cells + 1 ≤ room_1.cells ∧ slots + 6 ≤ room_1.slots) (hr : Rel t k n) (ih : ∀ (k n : ST) (v : Int64), Rel (t + 1) k n → ZL p l e room_1 s m args below meth c g ao cO Q (cells + 1) (slots + 6) k n v 2327 [(4, .int (nI (6 * t))), (0, .ref b), (1, .ref (g.2.1 10)), (2, .ref (g.2.1 11)), (3, .ref ao)] []) : ZL p l e room_1 s m args below meth c g ao cO Q cells slots k n v 1576 [(4, .int (nI (6 * t))), (0, .ref b), (1, .ref (g.2.1 10)), (2, .ref (g.2.1 11)), (3, .ref ao)] [] := by
  by_cases hz : xs (6 * t + 2) = 0
  · obtain ⟨r, k', n', hK, hM, hr2⟩ := pair_falsely t k n (xs (6 * t + 1)) false (by omega) hr
    refine zl_aload_n hH dL_law_1576 rfl 2 rfl ?_
    refine zl_aload_n hH dL_law_1577 rfl 1 rfl ?_
    refine zl_iload hH dL_law_1578 0 rfl ?_
    refine zl_iconst hH (x := 1) dL_law_1580 rfl ?_
    refine zl_iadd hH dL_law_1581 ?_
    refine zl_sld hH hL (6 * t + 1) (nI_add (6 * t) 1) (by omega) dL_law_1582 ?_
    refine zl_aload_n hH dL_law_1583 rfl 1 rfl ?_
    refine zl_iload hH dL_law_1584 0 rfl ?_
    refine zl_iconst hH (x := 2) dL_law_1586 rfl ?_
    refine zl_iadd hH dL_law_1587 ?_
    refine zl_sld hH hL (6 * t + 2) (nI_add (6 * t) 2) (by omega) dL_law_1588 ?_
    refine zl_if0 hH (tgt := 1596) hz dL_law_1589 (by decide) ?_
    refine zl_iconst hH (x := 0) dL_law_1596 rfl ?_
    refine zl_callK hH hK (c_X11_falsely l g (xs (6 * t + 1)) false) mt_X11_falsely wd_958 wd_959 ci_10 wd_957 rfl ⟨Nat.le_of_ble_eq_true rfl, Nat.le_of_ble_eq_true rfl⟩ rfl rfl ⟨by omega, by omega⟩ (rest := []) rfl (Nat.le_of_ble_eq_true rfl) dL_law_1597 ?_
    refine zl_aload_n hH dL_law_1600 rfl 3 rfl ?_
    refine zl_aload_n hH dL_law_1601 rfl 1 rfl ?_
    refine zl_iload hH dL_law_1602 0 rfl ?_
    refine zl_iconst hH (x := 1) dL_law_1604 rfl ?_
    refine zl_iadd hH dL_law_1605 ?_
    refine zl_sld hH hL (6 * t + 1) (nI_add (6 * t) 1) (by omega) dL_law_1606 ?_
    refine zl_aload_n hH dL_law_1607 rfl 1 rfl ?_
    refine zl_iload hH dL_law_1608 0 rfl ?_
    refine zl_iconst hH (x := 2) dL_law_1610 rfl ?_
    refine zl_iadd hH dL_law_1611 ?_
    refine zl_sld hH hL (6 * t + 2) (nI_add (6 * t) 2) (by omega) dL_law_1612 ?_
    refine zl_if0 hH (tgt := 1620) hz dL_law_1613 (by decide) ?_
    refine zl_iconst hH (x := 0) dL_law_1620 rfl ?_
    refine zl_callM hH hM (c_X12_falsely l g (xs (6 * t + 1)) false) mt_X12_falsely wd_1808 wd_1809 ci_11 wd_1807 rfl ⟨Nat.le_of_ble_eq_true rfl, Nat.le_of_ble_eq_true rfl⟩ rfl rfl ⟨by omega, by omega⟩ (rest := [.int (b2i r)]) rfl (Nat.le_of_ble_eq_true rfl) dL_law_1621 ?_
    refine zl_same hH (tgt := 2327) rfl dL_law_1624 (by decide) ?_
    refine zl_widen (Nat.le_add_right _ 1) (Nat.le_add_right _ 6) ?_
    exact ih k' n' v hr2
  · obtain ⟨r, k', n', hK, hM, hr2⟩ := pair_falsely t k n (xs (6 * t + 1)) true (by omega) hr
    refine zl_aload_n hH dL_law_1576 rfl 2 rfl ?_
    refine zl_aload_n hH dL_law_1577 rfl 1 rfl ?_
    refine zl_iload hH dL_law_1578 0 rfl ?_
    refine zl_iconst hH (x := 1) dL_law_1580 rfl ?_
    refine zl_iadd hH dL_law_1581 ?_
    refine zl_sld hH hL (6 * t + 1) (nI_add (6 * t) 1) (by omega) dL_law_1582 ?_
    refine zl_aload_n hH dL_law_1583 rfl 1 rfl ?_
    refine zl_iload hH dL_law_1584 0 rfl ?_
    refine zl_iconst hH (x := 2) dL_law_1586 rfl ?_
    refine zl_iadd hH dL_law_1587 ?_
    refine zl_sld hH hL (6 * t + 2) (nI_add (6 * t) 2) (by omega) dL_law_1588 ?_
    refine zl_if1 hH (tgt := 1596) hz dL_law_1589 (by decide) ?_
    refine zl_iconst hH (x := 1) dL_law_1592 rfl ?_
    refine zl_goto hH (tgt := 1597) dL_law_1593 (by decide) ?_
    refine zl_callK hH hK (c_X11_falsely l g (xs (6 * t + 1)) true) mt_X11_falsely wd_958 wd_959 ci_10 wd_957 rfl ⟨Nat.le_of_ble_eq_true rfl, Nat.le_of_ble_eq_true rfl⟩ rfl rfl ⟨by omega, by omega⟩ (rest := []) rfl (Nat.le_of_ble_eq_true rfl) dL_law_1597 ?_
    refine zl_aload_n hH dL_law_1600 rfl 3 rfl ?_
    refine zl_aload_n hH dL_law_1601 rfl 1 rfl ?_
    refine zl_iload hH dL_law_1602 0 rfl ?_
    refine zl_iconst hH (x := 1) dL_law_1604 rfl ?_
    refine zl_iadd hH dL_law_1605 ?_
    refine zl_sld hH hL (6 * t + 1) (nI_add (6 * t) 1) (by omega) dL_law_1606 ?_
    refine zl_aload_n hH dL_law_1607 rfl 1 rfl ?_
    refine zl_iload hH dL_law_1608 0 rfl ?_
    refine zl_iconst hH (x := 2) dL_law_1610 rfl ?_
    refine zl_iadd hH dL_law_1611 ?_
    refine zl_sld hH hL (6 * t + 2) (nI_add (6 * t) 2) (by omega) dL_law_1612 ?_
    refine zl_if1 hH (tgt := 1620) hz dL_law_1613 (by decide) ?_
    refine zl_iconst hH (x := 1) dL_law_1616 rfl ?_
    refine zl_goto hH (tgt := 1621) dL_law_1617 (by decide) ?_
    refine zl_callM hH hM (c_X12_falsely l g (xs (6 * t + 1)) true) mt_X12_falsely wd_1808 wd_1809 ci_11 wd_1807 rfl ⟨Nat.le_of_ble_eq_true rfl, Nat.le_of_ble_eq_true rfl⟩ rfl rfl ⟨by omega, by omega⟩ (rest := [.int (b2i r)]) rfl (Nat.le_of_ble_eq_true rfl) dL_law_1621 ?_
    refine zl_same hH (tgt := 2327) rfl dL_law_1624 (by decide) ?_
    refine zl_widen (Nat.le_add_right _ 1) (Nat.le_add_right _ 6) ?_
    exact ih k' n' v hr2
theorem lc_33 {p : Program} {l : Launch} {e : Env} {s : State} {m : MethodId} {args : Array Value} {below : List Frame} {meth : Method} {c : Code} {b L : Nat} {xs : Nat → Int32} {g : GT} {ao : Nat} {cO : ClassId} {Q : State → Prop} {cells slots t : Nat} {k n : ST} {v : Int64} (hH : HL p s m args meth c b L xs g ao cO) (hL : L ≤ 3072) (ht : 6 * t + 6 ≤ L) (hcl : cells + 1 ≤ room_1.cells ∧ slots + 6 ≤ room_1.slots) (hr : Rel t k n) (ih : ∀ (k n : ST) (v : Int64), Rel (t + 1) k n → ZL p l e room_1 s m args below meth c g ao cO Q (cells + 1) (slots + 6) k n v 2327 [(4, .int (nI (6 * t))), (0, .ref b), (1, .ref (g.2.1 10)), (2, .ref (g.2.1 11)), (3, .ref ao)] []) : ZL p l e room_1 s m args below meth c g ao cO Q cells slots k n v 1629 [(4, .int (nI (6 * t))), (0, .ref b), (1, .ref (g.2.1 10)), (2, .ref (g.2.1 11)), (3, .ref ao)] [] := by
  obtain ⟨r, k', n', hK, hM, hr2⟩ := pair_several t k n (xs (6 * t + 1)) (xs (6 * t + 2)) (xs (6 * t + 3)) ((j_lshl (Int32.toInt64 (xs (6 * t + 4))) 32) ||| ((Int32.toInt64 (xs (6 * t + 5))) &&& (4294967295))) (by omega) hr
  refine zl_aload_n hH dL_law_1629 rfl 2 rfl ?_
  refine zl_aload_n hH dL_law_1630 rfl 1 rfl ?_
  refine zl_iload hH dL_law_1631 0 rfl ?_
  refine zl_iconst hH (x := 1) dL_law_1633 rfl ?_
  refine zl_iadd hH dL_law_1634 ?_
  refine zl_sld hH hL (6 * t + 1) (nI_add (6 * t) 1) (by omega) dL_law_1635 ?_
  refine zl_aload_n hH dL_law_1636 rfl 1 rfl ?_
  refine zl_iload hH dL_law_1637 0 rfl ?_
  refine zl_iconst hH (x := 2) dL_law_1639 rfl ?_
  refine zl_iadd hH dL_law_1640 ?_
  refine zl_sld hH hL (6 * t + 2) (nI_add (6 * t) 2) (by omega) dL_law_1641 ?_
  refine zl_aload_n hH dL_law_1642 rfl 1 rfl ?_
  refine zl_iload hH dL_law_1643 0 rfl ?_
  refine zl_iconst hH (x := 3) dL_law_1645 rfl ?_
  refine zl_iadd hH dL_law_1646 ?_
  refine zl_sld hH hL (6 * t + 3) (nI_add (6 * t) 3) (by omega) dL_law_1647 ?_
  refine zl_aload_n hH dL_law_1648 rfl 1 rfl ?_
  refine zl_iload hH dL_law_1649 0 rfl ?_
  refine zl_iconst hH (x := 4) dL_law_1651 rfl ?_
  refine zl_iadd hH dL_law_1652 ?_
  refine zl_sld hH hL (6 * t + 4) (nI_add (6 * t) 4) (by omega) dL_law_1653 ?_
  refine zl_i2l hH dL_law_1654 ?_
  refine zl_bipush hH (x := 32) dL_law_1655 rfl ?_
  refine zl_lshl hH dL_law_1657 ?_
  refine zl_aload_n hH dL_law_1658 rfl 1 rfl ?_
  refine zl_iload hH dL_law_1659 0 rfl ?_
  refine zl_iconst hH (x := 5) dL_law_1661 rfl ?_
  refine zl_iadd hH dL_law_1662 ?_
  refine zl_sld hH hL (6 * t + 5) (nI_add (6 * t) 5) (by omega) dL_law_1663 ?_
  refine zl_i2l hH dL_law_1664 ?_
  refine zl_ldc2 hH wd_1914 dL_law_1665 ?_
  refine zl_land hH dL_law_1668 ?_
  refine zl_lor hH dL_law_1669 ?_
  refine zl_callK hH hK (c_X11_several l g (xs (6 * t + 1)) (xs (6 * t + 2)) (xs (6 * t + 3)) ((j_lshl (Int32.toInt64 (xs (6 * t + 4))) 32) ||| ((Int32.toInt64 (xs (6 * t + 5))) &&& (4294967295)))) mt_X11_several wd_962 wd_963 ci_10 wd_961 rfl ⟨Nat.le_of_ble_eq_true rfl, Nat.le_of_ble_eq_true rfl⟩ rfl rfl ⟨by omega, by omega⟩ (rest := []) rfl (Nat.le_of_ble_eq_true rfl) dL_law_1670 ?_
  refine zl_aload_n hH dL_law_1673 rfl 3 rfl ?_
  refine zl_aload_n hH dL_law_1674 rfl 1 rfl ?_
  refine zl_iload hH dL_law_1675 0 rfl ?_
  refine zl_iconst hH (x := 1) dL_law_1677 rfl ?_
  refine zl_iadd hH dL_law_1678 ?_
  refine zl_sld hH hL (6 * t + 1) (nI_add (6 * t) 1) (by omega) dL_law_1679 ?_
  refine zl_aload_n hH dL_law_1680 rfl 1 rfl ?_
  refine zl_iload hH dL_law_1681 0 rfl ?_
  refine zl_iconst hH (x := 2) dL_law_1683 rfl ?_
  refine zl_iadd hH dL_law_1684 ?_
  refine zl_sld hH hL (6 * t + 2) (nI_add (6 * t) 2) (by omega) dL_law_1685 ?_
  refine zl_aload_n hH dL_law_1686 rfl 1 rfl ?_
  refine zl_iload hH dL_law_1687 0 rfl ?_
  refine zl_iconst hH (x := 3) dL_law_1689 rfl ?_
  refine zl_iadd hH dL_law_1690 ?_
  refine zl_sld hH hL (6 * t + 3) (nI_add (6 * t) 3) (by omega) dL_law_1691 ?_
  refine zl_aload_n hH dL_law_1692 rfl 1 rfl ?_
  refine zl_iload hH dL_law_1693 0 rfl ?_
  refine zl_iconst hH (x := 4) dL_law_1695 rfl ?_
  refine zl_iadd hH dL_law_1696 ?_
  refine zl_sld hH hL (6 * t + 4) (nI_add (6 * t) 4) (by omega) dL_law_1697 ?_
  refine zl_i2l hH dL_law_1698 ?_
  refine zl_bipush hH (x := 32) dL_law_1699 rfl ?_
  refine zl_lshl hH dL_law_1701 ?_
  refine zl_aload_n hH dL_law_1702 rfl 1 rfl ?_
  refine zl_iload hH dL_law_1703 0 rfl ?_
  refine zl_iconst hH (x := 5) dL_law_1705 rfl ?_
  refine zl_iadd hH dL_law_1706 ?_
  refine zl_sld hH hL (6 * t + 5) (nI_add (6 * t) 5) (by omega) dL_law_1707 ?_
  refine zl_i2l hH dL_law_1708 ?_
  refine zl_ldc2 hH wd_1914 dL_law_1709 ?_
  refine zl_land hH dL_law_1712 ?_
  refine zl_lor hH dL_law_1713 ?_
  refine zl_callM hH hM (c_X12_several l g (xs (6 * t + 1)) (xs (6 * t + 2)) (xs (6 * t + 3)) ((j_lshl (Int32.toInt64 (xs (6 * t + 4))) 32) ||| ((Int32.toInt64 (xs (6 * t + 5))) &&& (4294967295)))) mt_X12_several wd_1812 wd_1813 ci_11 wd_1811 rfl ⟨Nat.le_of_ble_eq_true rfl, Nat.le_of_ble_eq_true rfl⟩ rfl rfl ⟨by omega, by omega⟩ (rest := [.int r]) rfl (Nat.le_of_ble_eq_true rfl) dL_law_1714 ?_
  refine zl_same hH (tgt := 2327) rfl dL_law_1717 (by decide) ?_
  refine zl_widen (Nat.le_add_right _ 1) (Nat.le_add_right _ 6) ?_
  exact ih k' n' v hr2
theorem lc_34 {p : Program} {l : Launch} {e : Env} {s : State} {m : MethodId} {args : Array Value} {below : List Frame} {meth : Method} {c : Code} {b L : Nat} {xs : Nat → Int32} {g : GT} {ao : Nat} {cO : ClassId} {Q : State → Prop} {cells slots t : Nat} {k n : ST} {v : Int64} (hH : HL p s m args meth c b L xs g ao cO) (hL : L ≤ 3072) (ht : 6 * t + 6 ≤ L) (hcl : cells + 1 ≤ room_1.cells ∧ slots + 6 ≤ room_1.slots) (hr : Rel t k n) (ih : ∀ (k n : ST) (v : Int64), Rel (t + 1) k n → ZL p l e room_1 s m args below meth c g ao cO Q (cells + 1) (slots + 6) k n v 2327 [(4, .int (nI (6 * t))), (0, .ref b), (1, .ref (g.2.1 10)), (2, .ref (g.2.1 11)), (3, .ref ao)] []) : ZL p l e room_1 s m args below meth c g ao cO Q cells slots k n v 1722 [(4, .int (nI (6 * t))), (0, .ref b), (1, .ref (g.2.1 10)), (2, .ref (g.2.1 11)), (3, .ref ao)] [] := by
  obtain ⟨r, k', n', hK, hM, hr2⟩ := pair_signed t k n (xs (6 * t + 1)) (xs (6 * t + 2)) (by omega) hr
  refine zl_aload_n hH dL_law_1722 rfl 2 rfl ?_
  refine zl_aload_n hH dL_law_1723 rfl 1 rfl ?_
  refine zl_iload hH dL_law_1724 0 rfl ?_
  refine zl_iconst hH (x := 1) dL_law_1726 rfl ?_
  refine zl_iadd hH dL_law_1727 ?_
  refine zl_sld hH hL (6 * t + 1) (nI_add (6 * t) 1) (by omega) dL_law_1728 ?_
  refine zl_aload_n hH dL_law_1729 rfl 1 rfl ?_
  refine zl_iload hH dL_law_1730 0 rfl ?_
  refine zl_iconst hH (x := 2) dL_law_1732 rfl ?_
  refine zl_iadd hH dL_law_1733 ?_
  refine zl_sld hH hL (6 * t + 2) (nI_add (6 * t) 2) (by omega) dL_law_1734 ?_
  refine zl_callK hH hK (c_X11_signed l g (xs (6 * t + 1)) (xs (6 * t + 2))) mt_X11_signed wd_993 wd_994 ci_10 wd_992 rfl ⟨Nat.le_of_ble_eq_true rfl, Nat.le_of_ble_eq_true rfl⟩ rfl rfl ⟨by omega, by omega⟩ (rest := []) rfl (Nat.le_of_ble_eq_true rfl) dL_law_1735 ?_
  refine zl_aload_n hH dL_law_1738 rfl 3 rfl ?_
  refine zl_aload_n hH dL_law_1739 rfl 1 rfl ?_
  refine zl_iload hH dL_law_1740 0 rfl ?_
  refine zl_iconst hH (x := 1) dL_law_1742 rfl ?_
  refine zl_iadd hH dL_law_1743 ?_
  refine zl_sld hH hL (6 * t + 1) (nI_add (6 * t) 1) (by omega) dL_law_1744 ?_
  refine zl_aload_n hH dL_law_1745 rfl 1 rfl ?_
  refine zl_iload hH dL_law_1746 0 rfl ?_
  refine zl_iconst hH (x := 2) dL_law_1748 rfl ?_
  refine zl_iadd hH dL_law_1749 ?_
  refine zl_sld hH hL (6 * t + 2) (nI_add (6 * t) 2) (by omega) dL_law_1750 ?_
  refine zl_callM hH hM (c_X12_signed l g (xs (6 * t + 1)) (xs (6 * t + 2))) mt_X12_signed wd_1816 wd_1817 ci_11 wd_1815 rfl ⟨Nat.le_of_ble_eq_true rfl, Nat.le_of_ble_eq_true rfl⟩ rfl rfl ⟨by omega, by omega⟩ (rest := [.int r]) rfl (Nat.le_of_ble_eq_true rfl) dL_law_1751 ?_
  refine zl_same hH (tgt := 2327) rfl dL_law_1754 (by decide) ?_
  refine zl_widen (Nat.le_add_right _ 1) (Nat.le_add_right _ 6) ?_
  exact ih k' n' v hr2
theorem lc_35 {p : Program} {l : Launch} {e : Env} {s : State} {m : MethodId} {args : Array Value} {below : List Frame} {meth : Method} {c : Code} {b L : Nat} {xs : Nat → Int32} {g : GT} {ao : Nat} {cO : ClassId} {Q : State → Prop} {cells slots t : Nat} {k n : ST} {v : Int64} (hH : HL p s m args meth c b L xs g ao cO) (hL : L ≤ 3072) (ht : 6 * t + 6 ≤ L) (hcl : cells + 1 ≤ room_1.cells ∧ slots + 6 ≤ room_1.slots) (hr : Rel t k n) (ih : ∀ (k n : ST) (v : Int64), Rel (t + 1) k n → ZL p l e room_1 s m args below meth c g ao cO Q (cells + 1) (slots + 6) k n v 2327 [(4, .int (nI (6 * t))), (0, .ref b), (1, .ref (g.2.1 10)), (2, .ref (g.2.1 11)), (3, .ref ao)] []) : ZL p l e room_1 s m args below meth c g ao cO Q cells slots k n v 1759 [(4, .int (nI (6 * t))), (0, .ref b), (1, .ref (g.2.1 10)), (2, .ref (g.2.1 11)), (3, .ref ao)] [] := by
  obtain ⟨r, k', n', hK, hM, hr2⟩ := pair_taken t k n (xs (6 * t + 1)) (xs (6 * t + 2)) (xs (6 * t + 3)) (xs (6 * t + 4)) (by omega) hr
  refine zl_aload_n hH dL_law_1759 rfl 2 rfl ?_
  refine zl_aload_n hH dL_law_1760 rfl 1 rfl ?_
  refine zl_iload hH dL_law_1761 0 rfl ?_
  refine zl_iconst hH (x := 1) dL_law_1763 rfl ?_
  refine zl_iadd hH dL_law_1764 ?_
  refine zl_sld hH hL (6 * t + 1) (nI_add (6 * t) 1) (by omega) dL_law_1765 ?_
  refine zl_aload_n hH dL_law_1766 rfl 1 rfl ?_
  refine zl_iload hH dL_law_1767 0 rfl ?_
  refine zl_iconst hH (x := 2) dL_law_1769 rfl ?_
  refine zl_iadd hH dL_law_1770 ?_
  refine zl_sld hH hL (6 * t + 2) (nI_add (6 * t) 2) (by omega) dL_law_1771 ?_
  refine zl_aload_n hH dL_law_1772 rfl 1 rfl ?_
  refine zl_iload hH dL_law_1773 0 rfl ?_
  refine zl_iconst hH (x := 3) dL_law_1775 rfl ?_
  refine zl_iadd hH dL_law_1776 ?_
  refine zl_sld hH hL (6 * t + 3) (nI_add (6 * t) 3) (by omega) dL_law_1777 ?_
  refine zl_aload_n hH dL_law_1778 rfl 1 rfl ?_
  refine zl_iload hH dL_law_1779 0 rfl ?_
  refine zl_iconst hH (x := 4) dL_law_1781 rfl ?_
  refine zl_iadd hH dL_law_1782 ?_
  refine zl_sld hH hL (6 * t + 4) (nI_add (6 * t) 4) (by omega) dL_law_1783 ?_
  refine zl_callK hH hK (c_X11_taken l g (xs (6 * t + 1)) (xs (6 * t + 2)) (xs (6 * t + 3)) (xs (6 * t + 4))) mt_X11_taken wd_1001 wd_1002 ci_10 wd_1000 rfl ⟨Nat.le_of_ble_eq_true rfl, Nat.le_of_ble_eq_true rfl⟩ rfl rfl ⟨by omega, by omega⟩ (rest := []) rfl (Nat.le_of_ble_eq_true rfl) dL_law_1784 ?_
  refine zl_aload_n hH dL_law_1787 rfl 3 rfl ?_
  refine zl_aload_n hH dL_law_1788 rfl 1 rfl ?_
  refine zl_iload hH dL_law_1789 0 rfl ?_
  refine zl_iconst hH (x := 1) dL_law_1791 rfl ?_
  refine zl_iadd hH dL_law_1792 ?_
  refine zl_sld hH hL (6 * t + 1) (nI_add (6 * t) 1) (by omega) dL_law_1793 ?_
  refine zl_aload_n hH dL_law_1794 rfl 1 rfl ?_
  refine zl_iload hH dL_law_1795 0 rfl ?_
  refine zl_iconst hH (x := 2) dL_law_1797 rfl ?_
  refine zl_iadd hH dL_law_1798 ?_
  refine zl_sld hH hL (6 * t + 2) (nI_add (6 * t) 2) (by omega) dL_law_1799 ?_
  refine zl_aload_n hH dL_law_1800 rfl 1 rfl ?_
  refine zl_iload hH dL_law_1801 0 rfl ?_
  refine zl_iconst hH (x := 3) dL_law_1803 rfl ?_
  refine zl_iadd hH dL_law_1804 ?_
  refine zl_sld hH hL (6 * t + 3) (nI_add (6 * t) 3) (by omega) dL_law_1805 ?_
  refine zl_aload_n hH dL_law_1806 rfl 1 rfl ?_
  refine zl_iload hH dL_law_1807 0 rfl ?_
  refine zl_iconst hH (x := 4) dL_law_1809 rfl ?_
  refine zl_iadd hH dL_law_1810 ?_
  refine zl_sld hH hL (6 * t + 4) (nI_add (6 * t) 4) (by omega) dL_law_1811 ?_
  refine zl_callM hH hM (c_X12_taken l g (xs (6 * t + 1)) (xs (6 * t + 2)) (xs (6 * t + 3)) (xs (6 * t + 4))) mt_X12_taken wd_1820 wd_1821 ci_11 wd_1819 rfl ⟨Nat.le_of_ble_eq_true rfl, Nat.le_of_ble_eq_true rfl⟩ rfl rfl ⟨by omega, by omega⟩ (rest := [.int r]) rfl (Nat.le_of_ble_eq_true rfl) dL_law_1812 ?_
  refine zl_same hH (tgt := 2327) rfl dL_law_1815 (by decide) ?_
  refine zl_widen (Nat.le_add_right _ 1) (Nat.le_add_right _ 6) ?_
  exact ih k' n' v hr2
theorem lc_36 {p : Program} {l : Launch} {e : Env} {s : State} {m : MethodId} {args : Array Value} {below : List Frame} {meth : Method} {c : Code} {b L : Nat} {xs : Nat → Int32} {g : GT} {ao : Nat} {cO : ClassId} {Q : State → Prop} {cells slots t : Nat} {k n : ST} {v : Int64} (hH : HL p s m args meth c b L xs g ao cO) (hL : L ≤ 3072) (ht : 6 * t + 6 ≤ L) (hcl : cells + 1 ≤ room_1.cells ∧ slots + 6 ≤ room_1.slots) (hr : Rel t k n) (ih : ∀ (k n : ST) (v : Int64), Rel (t + 1) k n → ZL p l e room_1 s m args below meth c g ao cO Q (cells + 1) (slots + 6) k n v 2327 [(4, .int (nI (6 * t))), (0, .ref b), (1, .ref (g.2.1 10)), (2, .ref (g.2.1 11)), (3, .ref ao)] []) : ZL p l e room_1 s m args below meth c g ao cO Q cells slots k n v 1820 [(4, .int (nI (6 * t))), (0, .ref b), (1, .ref (g.2.1 10)), (2, .ref (g.2.1 11)), (3, .ref ao)] [] := by
  obtain ⟨r, k', n', hK, hM, hr2⟩ := pair_burn t k n (xs (6 * t + 1)) (xs (6 * t + 2)) (by omega) hr
  refine zl_aload_n hH dL_law_1820 rfl 2 rfl ?_
  refine zl_aload_n hH dL_law_1821 rfl 1 rfl ?_
  refine zl_iload hH dL_law_1822 0 rfl ?_
  refine zl_iconst hH (x := 1) dL_law_1824 rfl ?_
  refine zl_iadd hH dL_law_1825 ?_
  refine zl_sld hH hL (6 * t + 1) (nI_add (6 * t) 1) (by omega) dL_law_1826 ?_
  refine zl_aload_n hH dL_law_1827 rfl 1 rfl ?_
  refine zl_iload hH dL_law_1828 0 rfl ?_
  refine zl_iconst hH (x := 2) dL_law_1830 rfl ?_
  refine zl_iadd hH dL_law_1831 ?_
  refine zl_sld hH hL (6 * t + 2) (nI_add (6 * t) 2) (by omega) dL_law_1832 ?_
  refine zl_callK hH hK (c_X11_burn l g (xs (6 * t + 1)) (xs (6 * t + 2))) mt_X11_burn wd_1013 wd_1014 ci_10 wd_1012 rfl ⟨Nat.le_of_ble_eq_true rfl, Nat.le_of_ble_eq_true rfl⟩ rfl rfl ⟨by omega, by omega⟩ (rest := []) rfl (Nat.le_of_ble_eq_true rfl) dL_law_1833 ?_
  refine zl_aload_n hH dL_law_1836 rfl 3 rfl ?_
  refine zl_aload_n hH dL_law_1837 rfl 1 rfl ?_
  refine zl_iload hH dL_law_1838 0 rfl ?_
  refine zl_iconst hH (x := 1) dL_law_1840 rfl ?_
  refine zl_iadd hH dL_law_1841 ?_
  refine zl_sld hH hL (6 * t + 1) (nI_add (6 * t) 1) (by omega) dL_law_1842 ?_
  refine zl_aload_n hH dL_law_1843 rfl 1 rfl ?_
  refine zl_iload hH dL_law_1844 0 rfl ?_
  refine zl_iconst hH (x := 2) dL_law_1846 rfl ?_
  refine zl_iadd hH dL_law_1847 ?_
  refine zl_sld hH hL (6 * t + 2) (nI_add (6 * t) 2) (by omega) dL_law_1848 ?_
  refine zl_callM hH hM (c_X12_burn l g (xs (6 * t + 1)) (xs (6 * t + 2))) mt_X12_burn wd_1824 wd_1825 ci_11 wd_1823 rfl ⟨Nat.le_of_ble_eq_true rfl, Nat.le_of_ble_eq_true rfl⟩ rfl rfl ⟨by omega, by omega⟩ (rest := [.int (b2i r)]) rfl (Nat.le_of_ble_eq_true rfl) dL_law_1849 ?_
  refine zl_same hH (tgt := 2327) rfl dL_law_1852 (by decide) ?_
  refine zl_widen (Nat.le_add_right _ 1) (Nat.le_add_right _ 6) ?_
  exact ih k' n' v hr2
theorem lc_37 {p : Program} {l : Launch} {e : Env} {s : State} {m : MethodId} {args : Array Value} {below : List Frame} {meth : Method} {c : Code} {b L : Nat} {xs : Nat → Int32} {g : GT} {ao : Nat} {cO : ClassId} {Q : State → Prop} {cells slots t : Nat} {k n : ST} {v : Int64} (hH : HL p s m args meth c b L xs g ao cO) (hL : L ≤ 3072) (ht : 6 * t + 6 ≤ L) (hcl : cells + 1 ≤ room_1.cells ∧ slots + 6 ≤ room_1.slots) (hr : Rel t k n) (ih : ∀ (k n : ST) (v : Int64), Rel (t + 1) k n → ZL p l e room_1 s m args below meth c g ao cO Q (cells + 1) (slots + 6) k n v 2327 [(4, .int (nI (6 * t))), (0, .ref b), (1, .ref (g.2.1 10)), (2, .ref (g.2.1 11)), (3, .ref ao)] []) : ZL p l e room_1 s m args below meth c g ao cO Q cells slots k n v 1857 [(4, .int (nI (6 * t))), (0, .ref b), (1, .ref (g.2.1 10)), (2, .ref (g.2.1 11)), (3, .ref ao)] [] := by
  obtain ⟨r, k', n', hK, hM, hr2⟩ := pair_old t k n (xs (6 * t + 1)) (by omega) hr
  refine zl_aload_n hH dL_law_1857 rfl 2 rfl ?_
  refine zl_aload_n hH dL_law_1858 rfl 1 rfl ?_
  refine zl_iload hH dL_law_1859 0 rfl ?_
  refine zl_iconst hH (x := 1) dL_law_1861 rfl ?_
  refine zl_iadd hH dL_law_1862 ?_
  refine zl_sld hH hL (6 * t + 1) (nI_add (6 * t) 1) (by omega) dL_law_1863 ?_
  refine zl_callK hH hK (c_X11_old l g (xs (6 * t + 1))) mt_X11_old wd_1021 wd_1022 ci_10 wd_1020 rfl ⟨Nat.le_of_ble_eq_true rfl, Nat.le_of_ble_eq_true rfl⟩ rfl rfl ⟨by omega, by omega⟩ (rest := []) rfl (Nat.le_of_ble_eq_true rfl) dL_law_1864 ?_
  refine zl_aload_n hH dL_law_1867 rfl 3 rfl ?_
  refine zl_aload_n hH dL_law_1868 rfl 1 rfl ?_
  refine zl_iload hH dL_law_1869 0 rfl ?_
  refine zl_iconst hH (x := 1) dL_law_1871 rfl ?_
  refine zl_iadd hH dL_law_1872 ?_
  refine zl_sld hH hL (6 * t + 1) (nI_add (6 * t) 1) (by omega) dL_law_1873 ?_
  refine zl_callM hH hM (c_X12_old l g (xs (6 * t + 1))) mt_X12_old wd_1828 wd_1829 ci_11 wd_1827 rfl ⟨Nat.le_of_ble_eq_true rfl, Nat.le_of_ble_eq_true rfl⟩ rfl rfl ⟨by omega, by omega⟩ (rest := [.int (b2i r)]) rfl (Nat.le_of_ble_eq_true rfl) dL_law_1874 ?_
  refine zl_same hH (tgt := 2327) rfl dL_law_1877 (by decide) ?_
  refine zl_widen (Nat.le_add_right _ 1) (Nat.le_add_right _ 6) ?_
  exact ih k' n' v hr2
theorem lc_38 {p : Program} {l : Launch} {e : Env} {s : State} {m : MethodId} {args : Array Value} {below : List Frame} {meth : Method} {c : Code} {b L : Nat} {xs : Nat → Int32} {g : GT} {ao : Nat} {cO : ClassId} {Q : State → Prop} {cells slots t : Nat} {k n : ST} {v : Int64} (hH : HL p s m args meth c b L xs g ao cO) (hL : L ≤ 3072) (ht : 6 * t + 6 ≤ L) (hcl : cells + 1 ≤ room_1.cells ∧ slots + 6 ≤ room_1.slots) (hr : Rel t k n) (ih : ∀ (k n : ST) (v : Int64), Rel (t + 1) k n → ZL p l e room_1 s m args below meth c g ao cO Q (cells + 1) (slots + 6) k n v 2327 [(4, .int (nI (6 * t))), (0, .ref b), (1, .ref (g.2.1 10)), (2, .ref (g.2.1 11)), (3, .ref ao)] []) : ZL p l e room_1 s m args below meth c g ao cO Q cells slots k n v 1882 [(4, .int (nI (6 * t))), (0, .ref b), (1, .ref (g.2.1 10)), (2, .ref (g.2.1 11)), (3, .ref ao)] [] := by
  obtain ⟨r, k', n', hK, hM, hr2⟩ := pair_stands t k n (xs (6 * t + 1)) (xs (6 * t + 2)) (by omega) hr
  refine zl_aload_n hH dL_law_1882 rfl 2 rfl ?_
  refine zl_aload_n hH dL_law_1883 rfl 1 rfl ?_
  refine zl_iload hH dL_law_1884 0 rfl ?_
  refine zl_iconst hH (x := 1) dL_law_1886 rfl ?_
  refine zl_iadd hH dL_law_1887 ?_
  refine zl_sld hH hL (6 * t + 1) (nI_add (6 * t) 1) (by omega) dL_law_1888 ?_
  refine zl_aload_n hH dL_law_1889 rfl 1 rfl ?_
  refine zl_iload hH dL_law_1890 0 rfl ?_
  refine zl_iconst hH (x := 2) dL_law_1892 rfl ?_
  refine zl_iadd hH dL_law_1893 ?_
  refine zl_sld hH hL (6 * t + 2) (nI_add (6 * t) 2) (by omega) dL_law_1894 ?_
  refine zl_callK hH hK (c_X11_stands l g (xs (6 * t + 1)) (xs (6 * t + 2))) mt_X11_stands wd_1025 wd_1026 ci_10 wd_1024 rfl ⟨Nat.le_of_ble_eq_true rfl, Nat.le_of_ble_eq_true rfl⟩ rfl rfl ⟨by omega, by omega⟩ (rest := []) rfl (Nat.le_of_ble_eq_true rfl) dL_law_1895 ?_
  refine zl_aload_n hH dL_law_1898 rfl 3 rfl ?_
  refine zl_aload_n hH dL_law_1899 rfl 1 rfl ?_
  refine zl_iload hH dL_law_1900 0 rfl ?_
  refine zl_iconst hH (x := 1) dL_law_1902 rfl ?_
  refine zl_iadd hH dL_law_1903 ?_
  refine zl_sld hH hL (6 * t + 1) (nI_add (6 * t) 1) (by omega) dL_law_1904 ?_
  refine zl_aload_n hH dL_law_1905 rfl 1 rfl ?_
  refine zl_iload hH dL_law_1906 0 rfl ?_
  refine zl_iconst hH (x := 2) dL_law_1908 rfl ?_
  refine zl_iadd hH dL_law_1909 ?_
  refine zl_sld hH hL (6 * t + 2) (nI_add (6 * t) 2) (by omega) dL_law_1910 ?_
  refine zl_callM hH hM (c_X12_stands l g (xs (6 * t + 1)) (xs (6 * t + 2))) mt_X12_stands wd_1832 wd_1833 ci_11 wd_1831 rfl ⟨Nat.le_of_ble_eq_true rfl, Nat.le_of_ble_eq_true rfl⟩ rfl rfl ⟨by omega, by omega⟩ (rest := [.int r]) rfl (Nat.le_of_ble_eq_true rfl) dL_law_1911 ?_
  refine zl_same hH (tgt := 2327) rfl dL_law_1914 (by decide) ?_
  refine zl_widen (Nat.le_add_right _ 1) (Nat.le_add_right _ 6) ?_
  exact ih k' n' v hr2
theorem lc_39 {p : Program} {l : Launch} {e : Env} {s : State} {m : MethodId} {args : Array Value} {below : List Frame} {meth : Method} {c : Code} {b L : Nat} {xs : Nat → Int32} {g : GT} {ao : Nat} {cO : ClassId} {Q : State → Prop} {cells slots t : Nat} {k n : ST} {v : Int64} (hH : HL p s m args meth c b L xs g ao cO) (hL : L ≤ 3072) (ht : 6 * t + 6 ≤ L) (hcl : cells + 1 ≤ room_1.cells ∧ slots + 6 ≤ room_1.slots) (hr : Rel t k n) (ih : ∀ (k n : ST) (v : Int64), Rel (t + 1) k n → ZL p l e room_1 s m args below meth c g ao cO Q (cells + 1) (slots + 6) k n v 2327 [(4, .int (nI (6 * t))), (0, .ref b), (1, .ref (g.2.1 10)), (2, .ref (g.2.1 11)), (3, .ref ao)] []) : ZL p l e room_1 s m args below meth c g ao cO Q cells slots k n v 1919 [(4, .int (nI (6 * t))), (0, .ref b), (1, .ref (g.2.1 10)), (2, .ref (g.2.1 11)), (3, .ref ao)] [] := by
  obtain ⟨r, k', n', hK, hM, hr2⟩ := pair_lend t k n (xs (6 * t + 1)) (xs (6 * t + 2)) (xs (6 * t + 3)) (xs (6 * t + 4)) (xs (6 * t + 5)) (by omega) hr
  refine zl_aload_n hH dL_law_1919 rfl 2 rfl ?_
  refine zl_aload_n hH dL_law_1920 rfl 1 rfl ?_
  refine zl_iload hH dL_law_1921 0 rfl ?_
  refine zl_iconst hH (x := 1) dL_law_1923 rfl ?_
  refine zl_iadd hH dL_law_1924 ?_
  refine zl_sld hH hL (6 * t + 1) (nI_add (6 * t) 1) (by omega) dL_law_1925 ?_
  refine zl_aload_n hH dL_law_1926 rfl 1 rfl ?_
  refine zl_iload hH dL_law_1927 0 rfl ?_
  refine zl_iconst hH (x := 2) dL_law_1929 rfl ?_
  refine zl_iadd hH dL_law_1930 ?_
  refine zl_sld hH hL (6 * t + 2) (nI_add (6 * t) 2) (by omega) dL_law_1931 ?_
  refine zl_aload_n hH dL_law_1932 rfl 1 rfl ?_
  refine zl_iload hH dL_law_1933 0 rfl ?_
  refine zl_iconst hH (x := 3) dL_law_1935 rfl ?_
  refine zl_iadd hH dL_law_1936 ?_
  refine zl_sld hH hL (6 * t + 3) (nI_add (6 * t) 3) (by omega) dL_law_1937 ?_
  refine zl_aload_n hH dL_law_1938 rfl 1 rfl ?_
  refine zl_iload hH dL_law_1939 0 rfl ?_
  refine zl_iconst hH (x := 4) dL_law_1941 rfl ?_
  refine zl_iadd hH dL_law_1942 ?_
  refine zl_sld hH hL (6 * t + 4) (nI_add (6 * t) 4) (by omega) dL_law_1943 ?_
  refine zl_aload_n hH dL_law_1944 rfl 1 rfl ?_
  refine zl_iload hH dL_law_1945 0 rfl ?_
  refine zl_iconst hH (x := 5) dL_law_1947 rfl ?_
  refine zl_iadd hH dL_law_1948 ?_
  refine zl_sld hH hL (6 * t + 5) (nI_add (6 * t) 5) (by omega) dL_law_1949 ?_
  refine zl_callK hH hK (c_X11_lend l g (xs (6 * t + 1)) (xs (6 * t + 2)) (xs (6 * t + 3)) (xs (6 * t + 4)) (xs (6 * t + 5))) mt_X11_lend wd_1030 wd_1031 ci_10 wd_1029 rfl ⟨Nat.le_of_ble_eq_true rfl, Nat.le_of_ble_eq_true rfl⟩ rfl rfl ⟨by omega, by omega⟩ (rest := []) rfl (Nat.le_of_ble_eq_true rfl) dL_law_1950 ?_
  refine zl_aload_n hH dL_law_1953 rfl 3 rfl ?_
  refine zl_aload_n hH dL_law_1954 rfl 1 rfl ?_
  refine zl_iload hH dL_law_1955 0 rfl ?_
  refine zl_iconst hH (x := 1) dL_law_1957 rfl ?_
  refine zl_iadd hH dL_law_1958 ?_
  refine zl_sld hH hL (6 * t + 1) (nI_add (6 * t) 1) (by omega) dL_law_1959 ?_
  refine zl_aload_n hH dL_law_1960 rfl 1 rfl ?_
  refine zl_iload hH dL_law_1961 0 rfl ?_
  refine zl_iconst hH (x := 2) dL_law_1963 rfl ?_
  refine zl_iadd hH dL_law_1964 ?_
  refine zl_sld hH hL (6 * t + 2) (nI_add (6 * t) 2) (by omega) dL_law_1965 ?_
  refine zl_aload_n hH dL_law_1966 rfl 1 rfl ?_
  refine zl_iload hH dL_law_1967 0 rfl ?_
  refine zl_iconst hH (x := 3) dL_law_1969 rfl ?_
  refine zl_iadd hH dL_law_1970 ?_
  refine zl_sld hH hL (6 * t + 3) (nI_add (6 * t) 3) (by omega) dL_law_1971 ?_
  refine zl_aload_n hH dL_law_1972 rfl 1 rfl ?_
  refine zl_iload hH dL_law_1973 0 rfl ?_
  refine zl_iconst hH (x := 4) dL_law_1975 rfl ?_
  refine zl_iadd hH dL_law_1976 ?_
  refine zl_sld hH hL (6 * t + 4) (nI_add (6 * t) 4) (by omega) dL_law_1977 ?_
  refine zl_aload_n hH dL_law_1978 rfl 1 rfl ?_
  refine zl_iload hH dL_law_1979 0 rfl ?_
  refine zl_iconst hH (x := 5) dL_law_1981 rfl ?_
  refine zl_iadd hH dL_law_1982 ?_
  refine zl_sld hH hL (6 * t + 5) (nI_add (6 * t) 5) (by omega) dL_law_1983 ?_
  refine zl_callM hH hM (c_X12_lend l g (xs (6 * t + 1)) (xs (6 * t + 2)) (xs (6 * t + 3)) (xs (6 * t + 4)) (xs (6 * t + 5))) mt_X12_lend wd_1836 wd_1837 ci_11 wd_1835 rfl ⟨Nat.le_of_ble_eq_true rfl, Nat.le_of_ble_eq_true rfl⟩ rfl rfl ⟨by omega, by omega⟩ (rest := [.int r]) rfl (Nat.le_of_ble_eq_true rfl) dL_law_1984 ?_
  refine zl_same hH (tgt := 2327) rfl dL_law_1987 (by decide) ?_
  refine zl_widen (Nat.le_add_right _ 1) (Nat.le_add_right _ 6) ?_
  exact ih k' n' v hr2
theorem lc_40 {p : Program} {l : Launch} {e : Env} {s : State} {m : MethodId} {args : Array Value} {below : List Frame} {meth : Method} {c : Code} {b L : Nat} {xs : Nat → Int32} {g : GT} {ao : Nat} {cO : ClassId} {Q : State → Prop} {cells slots t : Nat} {k n : ST} {v : Int64} (hH : HL p s m args meth c b L xs g ao cO) (hL : L ≤ 3072) (ht : 6 * t + 6 ≤ L) (hcl : cells + 1 ≤ room_1.cells ∧ slots + 6 ≤ room_1.slots) (hr : Rel t k n) (ih : ∀ (k n : ST) (v : Int64), Rel (t + 1) k n → ZL p l e room_1 s m args below meth c g ao cO Q (cells + 1) (slots + 6) k n v 2327 [(4, .int (nI (6 * t))), (0, .ref b), (1, .ref (g.2.1 10)), (2, .ref (g.2.1 11)), (3, .ref ao)] []) : ZL p l e room_1 s m args below meth c g ao cO Q cells slots k n v 1992 [(4, .int (nI (6 * t))), (0, .ref b), (1, .ref (g.2.1 10)), (2, .ref (g.2.1 11)), (3, .ref ao)] [] := by
  obtain ⟨r, k', n', hK, hM, hr2⟩ := pair_use t k n (xs (6 * t + 1)) (xs (6 * t + 2)) (xs (6 * t + 3)) (by omega) hr
  refine zl_aload_n hH dL_law_1992 rfl 2 rfl ?_
  refine zl_aload_n hH dL_law_1993 rfl 1 rfl ?_
  refine zl_iload hH dL_law_1994 0 rfl ?_
  refine zl_iconst hH (x := 1) dL_law_1996 rfl ?_
  refine zl_iadd hH dL_law_1997 ?_
  refine zl_sld hH hL (6 * t + 1) (nI_add (6 * t) 1) (by omega) dL_law_1998 ?_
  refine zl_aload_n hH dL_law_1999 rfl 1 rfl ?_
  refine zl_iload hH dL_law_2000 0 rfl ?_
  refine zl_iconst hH (x := 2) dL_law_2002 rfl ?_
  refine zl_iadd hH dL_law_2003 ?_
  refine zl_sld hH hL (6 * t + 2) (nI_add (6 * t) 2) (by omega) dL_law_2004 ?_
  refine zl_aload_n hH dL_law_2005 rfl 1 rfl ?_
  refine zl_iload hH dL_law_2006 0 rfl ?_
  refine zl_iconst hH (x := 3) dL_law_2008 rfl ?_
  refine zl_iadd hH dL_law_2009 ?_
  refine zl_sld hH hL (6 * t + 3) (nI_add (6 * t) 3) (by omega) dL_law_2010 ?_
  refine zl_callK hH hK (c_X11_use l g (xs (6 * t + 1)) (xs (6 * t + 2)) (xs (6 * t + 3))) mt_X11_use wd_1038 wd_1039 ci_10 wd_1037 rfl ⟨Nat.le_of_ble_eq_true rfl, Nat.le_of_ble_eq_true rfl⟩ rfl rfl ⟨by omega, by omega⟩ (rest := []) rfl (Nat.le_of_ble_eq_true rfl) dL_law_2011 ?_
  refine zl_aload_n hH dL_law_2014 rfl 3 rfl ?_
  refine zl_aload_n hH dL_law_2015 rfl 1 rfl ?_
  refine zl_iload hH dL_law_2016 0 rfl ?_
  refine zl_iconst hH (x := 1) dL_law_2018 rfl ?_
  refine zl_iadd hH dL_law_2019 ?_
  refine zl_sld hH hL (6 * t + 1) (nI_add (6 * t) 1) (by omega) dL_law_2020 ?_
  refine zl_aload_n hH dL_law_2021 rfl 1 rfl ?_
  refine zl_iload hH dL_law_2022 0 rfl ?_
  refine zl_iconst hH (x := 2) dL_law_2024 rfl ?_
  refine zl_iadd hH dL_law_2025 ?_
  refine zl_sld hH hL (6 * t + 2) (nI_add (6 * t) 2) (by omega) dL_law_2026 ?_
  refine zl_aload_n hH dL_law_2027 rfl 1 rfl ?_
  refine zl_iload hH dL_law_2028 0 rfl ?_
  refine zl_iconst hH (x := 3) dL_law_2030 rfl ?_
  refine zl_iadd hH dL_law_2031 ?_
  refine zl_sld hH hL (6 * t + 3) (nI_add (6 * t) 3) (by omega) dL_law_2032 ?_
  refine zl_callM hH hM (c_X12_use l g (xs (6 * t + 1)) (xs (6 * t + 2)) (xs (6 * t + 3))) mt_X12_use wd_1840 wd_1841 ci_11 wd_1839 rfl ⟨Nat.le_of_ble_eq_true rfl, Nat.le_of_ble_eq_true rfl⟩ rfl rfl ⟨by omega, by omega⟩ (rest := [.int r]) rfl (Nat.le_of_ble_eq_true rfl) dL_law_2033 ?_
  refine zl_same hH (tgt := 2327) rfl dL_law_2036 (by decide) ?_
  refine zl_widen (Nat.le_add_right _ 1) (Nat.le_add_right _ 6) ?_
  exact ih k' n' v hr2
theorem lc_41 {p : Program} {l : Launch} {e : Env} {s : State} {m : MethodId} {args : Array Value} {below : List Frame} {meth : Method} {c : Code} {b L : Nat} {xs : Nat → Int32} {g : GT} {ao : Nat} {cO : ClassId} {Q : State → Prop} {cells slots t : Nat} {k n : ST} {v : Int64} (hH : HL p s m args meth c b L xs g ao cO) (hL : L ≤ 3072) (ht : 6 * t + 6 ≤ L) (hcl : cells + 1 ≤ room_1.cells ∧ slots + 6 ≤ room_1.slots) (hr : Rel t k n) (ih : ∀ (k n : ST) (v : Int64), Rel (t + 1) k n → ZL p l e room_1 s m args below meth c g ao cO Q (cells + 1) (slots + 6) k n v 2327 [(4, .int (nI (6 * t))), (0, .ref b), (1, .ref (g.2.1 10)), (2, .ref (g.2.1 11)), (3, .ref ao)] []) : ZL p l e room_1 s m args below meth c g ao cO Q cells slots k n v 2041 [(4, .int (nI (6 * t))), (0, .ref b), (1, .ref (g.2.1 10)), (2, .ref (g.2.1 11)), (3, .ref ao)] [] := by
  obtain ⟨r, k', n', hK, hM, hr2⟩ := pair_back t k n (xs (6 * t + 1)) (by omega) hr
  refine zl_aload_n hH dL_law_2041 rfl 2 rfl ?_
  refine zl_aload_n hH dL_law_2042 rfl 1 rfl ?_
  refine zl_iload hH dL_law_2043 0 rfl ?_
  refine zl_iconst hH (x := 1) dL_law_2045 rfl ?_
  refine zl_iadd hH dL_law_2046 ?_
  refine zl_sld hH hL (6 * t + 1) (nI_add (6 * t) 1) (by omega) dL_law_2047 ?_
  refine zl_callK hH hK (c_X11_back l g (xs (6 * t + 1))) mt_X11_back wd_1050 wd_1051 ci_10 wd_1049 rfl ⟨Nat.le_of_ble_eq_true rfl, Nat.le_of_ble_eq_true rfl⟩ rfl rfl ⟨by omega, by omega⟩ (rest := []) rfl (Nat.le_of_ble_eq_true rfl) dL_law_2048 ?_
  refine zl_aload_n hH dL_law_2051 rfl 3 rfl ?_
  refine zl_aload_n hH dL_law_2052 rfl 1 rfl ?_
  refine zl_iload hH dL_law_2053 0 rfl ?_
  refine zl_iconst hH (x := 1) dL_law_2055 rfl ?_
  refine zl_iadd hH dL_law_2056 ?_
  refine zl_sld hH hL (6 * t + 1) (nI_add (6 * t) 1) (by omega) dL_law_2057 ?_
  refine zl_callM hH hM (c_X12_back l g (xs (6 * t + 1))) mt_X12_back wd_1844 wd_1845 ci_11 wd_1843 rfl ⟨Nat.le_of_ble_eq_true rfl, Nat.le_of_ble_eq_true rfl⟩ rfl rfl ⟨by omega, by omega⟩ (rest := [.int (b2i r)]) rfl (Nat.le_of_ble_eq_true rfl) dL_law_2058 ?_
  refine zl_same hH (tgt := 2327) rfl dL_law_2061 (by decide) ?_
  refine zl_widen (Nat.le_add_right _ 1) (Nat.le_add_right _ 6) ?_
  exact ih k' n' v hr2
theorem lc_42 {p : Program} {l : Launch} {e : Env} {s : State} {m : MethodId} {args : Array Value} {below : List Frame} {meth : Method} {c : Code} {b L : Nat} {xs : Nat → Int32} {g : GT} {ao : Nat} {cO : ClassId} {Q : State → Prop} {cells slots t : Nat} {k n : ST} {v : Int64} (hH : HL p s m args meth c b L xs g ao cO) (hL : L ≤ 3072) (ht : 6 * t + 6 ≤ L) (hcl : cells + 1 ≤ room_1.cells ∧ slots + 6 ≤ room_1.slots) (hr : Rel t k n) (ih : ∀ (k n : ST) (v : Int64), Rel (t + 1) k n → ZL p l e room_1 s m args below meth c g ao cO Q (cells + 1) (slots + 6) k n v 2327 [(4, .int (nI (6 * t))), (0, .ref b), (1, .ref (g.2.1 10)), (2, .ref (g.2.1 11)), (3, .ref ao)] []) : ZL p l e room_1 s m args below meth c g ao cO Q cells slots k n v 2066 [(4, .int (nI (6 * t))), (0, .ref b), (1, .ref (g.2.1 10)), (2, .ref (g.2.1 11)), (3, .ref ao)] [] := by
  obtain ⟨r, k', n', hK, hM, hr2⟩ := pair_fall t k n (xs (6 * t + 1)) (by omega) hr
  refine zl_aload_n hH dL_law_2066 rfl 2 rfl ?_
  refine zl_aload_n hH dL_law_2067 rfl 1 rfl ?_
  refine zl_iload hH dL_law_2068 0 rfl ?_
  refine zl_iconst hH (x := 1) dL_law_2070 rfl ?_
  refine zl_iadd hH dL_law_2071 ?_
  refine zl_sld hH hL (6 * t + 1) (nI_add (6 * t) 1) (by omega) dL_law_2072 ?_
  refine zl_callK hH hK (c_X11_fall l g (xs (6 * t + 1))) mt_X11_fall wd_1055 wd_1056 ci_10 wd_1054 rfl ⟨Nat.le_of_ble_eq_true rfl, Nat.le_of_ble_eq_true rfl⟩ rfl rfl ⟨by omega, by omega⟩ (rest := []) rfl (Nat.le_of_ble_eq_true rfl) dL_law_2073 ?_
  refine zl_aload_n hH dL_law_2076 rfl 3 rfl ?_
  refine zl_aload_n hH dL_law_2077 rfl 1 rfl ?_
  refine zl_iload hH dL_law_2078 0 rfl ?_
  refine zl_iconst hH (x := 1) dL_law_2080 rfl ?_
  refine zl_iadd hH dL_law_2081 ?_
  refine zl_sld hH hL (6 * t + 1) (nI_add (6 * t) 1) (by omega) dL_law_2082 ?_
  refine zl_callM hH hM (c_X12_fall l g (xs (6 * t + 1))) mt_X12_fall wd_1852 wd_1853 ci_11 wd_1851 rfl ⟨Nat.le_of_ble_eq_true rfl, Nat.le_of_ble_eq_true rfl⟩ rfl rfl ⟨by omega, by omega⟩ (rest := [.int r]) rfl (Nat.le_of_ble_eq_true rfl) dL_law_2083 ?_
  refine zl_same hH (tgt := 2327) rfl dL_law_2086 (by decide) ?_
  refine zl_widen (Nat.le_add_right _ 1) (Nat.le_add_right _ 6) ?_
  exact ih k' n' v hr2
theorem lc_43 {p : Program} {l : Launch} {e : Env} {s : State} {m : MethodId} {args : Array Value} {below : List Frame} {meth : Method} {c : Code} {b L : Nat} {xs : Nat → Int32} {g : GT} {ao : Nat} {cO : ClassId} {Q : State → Prop} {cells slots t : Nat} {k n : ST} {v : Int64} (hH : HL p s m args meth c b L xs g ao cO) (hL : L ≤ 3072) (ht : 6 * t + 6 ≤ L) (hcl : cells + 1 ≤ room_1.cells ∧ slots + 6 ≤ room_1.slots) (hr : Rel t k n) (ih : ∀ (k n : ST) (v : Int64), Rel (t + 1) k n → ZL p l e room_1 s m args below meth c g ao cO Q (cells + 1) (slots + 6) k n v 2327 [(4, .int (nI (6 * t))), (0, .ref b), (1, .ref (g.2.1 10)), (2, .ref (g.2.1 11)), (3, .ref ao)] []) : ZL p l e room_1 s m args below meth c g ao cO Q cells slots k n v 2091 [(4, .int (nI (6 * t))), (0, .ref b), (1, .ref (g.2.1 10)), (2, .ref (g.2.1 11)), (3, .ref ao)] [] := by
  obtain ⟨r, k', n', hK, hM, hr2⟩ := pair_fallen t k n (xs (6 * t + 1)) (xs (6 * t + 2)) (by omega) hr
  refine zl_aload_n hH dL_law_2091 rfl 2 rfl ?_
  refine zl_aload_n hH dL_law_2092 rfl 1 rfl ?_
  refine zl_iload hH dL_law_2093 0 rfl ?_
  refine zl_iconst hH (x := 1) dL_law_2095 rfl ?_
  refine zl_iadd hH dL_law_2096 ?_
  refine zl_sld hH hL (6 * t + 1) (nI_add (6 * t) 1) (by omega) dL_law_2097 ?_
  refine zl_aload_n hH dL_law_2098 rfl 1 rfl ?_
  refine zl_iload hH dL_law_2099 0 rfl ?_
  refine zl_iconst hH (x := 2) dL_law_2101 rfl ?_
  refine zl_iadd hH dL_law_2102 ?_
  refine zl_sld hH hL (6 * t + 2) (nI_add (6 * t) 2) (by omega) dL_law_2103 ?_
  refine zl_callK hH hK (c_X11_fallen l g (xs (6 * t + 1)) (xs (6 * t + 2))) mt_X11_fallen wd_1059 wd_1060 ci_10 wd_1058 rfl ⟨Nat.le_of_ble_eq_true rfl, Nat.le_of_ble_eq_true rfl⟩ rfl rfl ⟨by omega, by omega⟩ (rest := []) rfl (Nat.le_of_ble_eq_true rfl) dL_law_2104 ?_
  refine zl_aload_n hH dL_law_2107 rfl 3 rfl ?_
  refine zl_aload_n hH dL_law_2108 rfl 1 rfl ?_
  refine zl_iload hH dL_law_2109 0 rfl ?_
  refine zl_iconst hH (x := 1) dL_law_2111 rfl ?_
  refine zl_iadd hH dL_law_2112 ?_
  refine zl_sld hH hL (6 * t + 1) (nI_add (6 * t) 1) (by omega) dL_law_2113 ?_
  refine zl_aload_n hH dL_law_2114 rfl 1 rfl ?_
  refine zl_iload hH dL_law_2115 0 rfl ?_
  refine zl_iconst hH (x := 2) dL_law_2117 rfl ?_
  refine zl_iadd hH dL_law_2118 ?_
  refine zl_sld hH hL (6 * t + 2) (nI_add (6 * t) 2) (by omega) dL_law_2119 ?_
  refine zl_callM hH hM (c_X12_fallen l g (xs (6 * t + 1)) (xs (6 * t + 2))) mt_X12_fallen wd_1856 wd_1857 ci_11 wd_1855 rfl ⟨Nat.le_of_ble_eq_true rfl, Nat.le_of_ble_eq_true rfl⟩ rfl rfl ⟨by omega, by omega⟩ (rest := [.long r]) rfl (Nat.le_of_ble_eq_true rfl) dL_law_2120 ?_
  refine zl_sameL hH (tgt := 2327) rfl dL_law_2123 dL_law_2124 (by decide) ?_
  refine zl_widen (Nat.le_add_right _ 1) (Nat.le_add_right _ 6) ?_
  exact ih k' n' v hr2
theorem lc_44 {p : Program} {l : Launch} {e : Env} {s : State} {m : MethodId} {args : Array Value} {below : List Frame} {meth : Method} {c : Code} {b L : Nat} {xs : Nat → Int32} {g : GT} {ao : Nat} {cO : ClassId} {Q : State → Prop} {cells slots t : Nat} {k n : ST} {v : Int64} (hH : HL p s m args meth c b L xs g ao cO) (hL : L ≤ 3072) (ht : 6 * t + 6 ≤ L) (hcl : cells + 1 ≤ room_1.cells ∧ slots + 6 ≤ room_1.slots) (hr : Rel t k n) (ih : ∀ (k n : ST) (v : Int64), Rel (t + 1) k n → ZL p l e room_1 s m args below meth c g ao cO Q (cells + 1) (slots + 6) k n v 2327 [(4, .int (nI (6 * t))), (0, .ref b), (1, .ref (g.2.1 10)), (2, .ref (g.2.1 11)), (3, .ref ao)] []) : ZL p l e room_1 s m args below meth c g ao cO Q cells slots k n v 2129 [(4, .int (nI (6 * t))), (0, .ref b), (1, .ref (g.2.1 10)), (2, .ref (g.2.1 11)), (3, .ref ao)] [] := by
  obtain ⟨r, k', n', hK, hM, hr2⟩ := pair_least t k n (xs (6 * t + 1)) (xs (6 * t + 2)) (by omega) hr
  refine zl_aload_n hH dL_law_2129 rfl 2 rfl ?_
  refine zl_aload_n hH dL_law_2130 rfl 1 rfl ?_
  refine zl_iload hH dL_law_2131 0 rfl ?_
  refine zl_iconst hH (x := 1) dL_law_2133 rfl ?_
  refine zl_iadd hH dL_law_2134 ?_
  refine zl_sld hH hL (6 * t + 1) (nI_add (6 * t) 1) (by omega) dL_law_2135 ?_
  refine zl_aload_n hH dL_law_2136 rfl 1 rfl ?_
  refine zl_iload hH dL_law_2137 0 rfl ?_
  refine zl_iconst hH (x := 2) dL_law_2139 rfl ?_
  refine zl_iadd hH dL_law_2140 ?_
  refine zl_sld hH hL (6 * t + 2) (nI_add (6 * t) 2) (by omega) dL_law_2141 ?_
  refine zl_callK hH hK (c_X11_least l g (xs (6 * t + 1)) (xs (6 * t + 2))) mt_X11_least wd_1075 wd_1076 ci_10 wd_1074 rfl ⟨Nat.le_of_ble_eq_true rfl, Nat.le_of_ble_eq_true rfl⟩ rfl rfl ⟨by omega, by omega⟩ (rest := []) rfl (Nat.le_of_ble_eq_true rfl) dL_law_2142 ?_
  refine zl_aload_n hH dL_law_2145 rfl 3 rfl ?_
  refine zl_aload_n hH dL_law_2146 rfl 1 rfl ?_
  refine zl_iload hH dL_law_2147 0 rfl ?_
  refine zl_iconst hH (x := 1) dL_law_2149 rfl ?_
  refine zl_iadd hH dL_law_2150 ?_
  refine zl_sld hH hL (6 * t + 1) (nI_add (6 * t) 1) (by omega) dL_law_2151 ?_
  refine zl_aload_n hH dL_law_2152 rfl 1 rfl ?_
  refine zl_iload hH dL_law_2153 0 rfl ?_
  refine zl_iconst hH (x := 2) dL_law_2155 rfl ?_
  refine zl_iadd hH dL_law_2156 ?_
  refine zl_sld hH hL (6 * t + 2) (nI_add (6 * t) 2) (by omega) dL_law_2157 ?_
  refine zl_callM hH hM (c_X12_least l g (xs (6 * t + 1)) (xs (6 * t + 2))) mt_X12_least wd_1872 wd_1873 ci_11 wd_1871 rfl ⟨Nat.le_of_ble_eq_true rfl, Nat.le_of_ble_eq_true rfl⟩ rfl rfl ⟨by omega, by omega⟩ (rest := [.int r]) rfl (Nat.le_of_ble_eq_true rfl) dL_law_2158 ?_
  refine zl_same hH (tgt := 2327) rfl dL_law_2161 (by decide) ?_
  refine zl_widen (Nat.le_add_right _ 1) (Nat.le_add_right _ 6) ?_
  exact ih k' n' v hr2
theorem lc_45 {p : Program} {l : Launch} {e : Env} {s : State} {m : MethodId} {args : Array Value} {below : List Frame} {meth : Method} {c : Code} {b L : Nat} {xs : Nat → Int32} {g : GT} {ao : Nat} {cO : ClassId} {Q : State → Prop} {cells slots t : Nat} {k n : ST} {v : Int64} (hH : HL p s m args meth c b L xs g ao cO) (hL : L ≤ 3072) (ht : 6 * t + 6 ≤ L) (hcl : cells + 1 ≤ room_1.cells ∧ slots + 6 ≤ room_1.slots) (hr : Rel t k n) (ih : ∀ (k n : ST) (v : Int64), Rel (t + 1) k n → ZL p l e room_1 s m args below meth c g ao cO Q (cells + 1) (slots + 6) k n v 2327 [(4, .int (nI (6 * t))), (0, .ref b), (1, .ref (g.2.1 10)), (2, .ref (g.2.1 11)), (3, .ref ao)] []) : ZL p l e room_1 s m args below meth c g ao cO Q cells slots k n v 2166 [(4, .int (nI (6 * t))), (0, .ref b), (1, .ref (g.2.1 10)), (2, .ref (g.2.1 11)), (3, .ref ao)] [] := by
  obtain ⟨r, k', n', hK, hM, hr2⟩ := pair_ways t k n (xs (6 * t + 1)) (xs (6 * t + 2)) (by omega) hr
  refine zl_aload_n hH dL_law_2166 rfl 2 rfl ?_
  refine zl_aload_n hH dL_law_2167 rfl 1 rfl ?_
  refine zl_iload hH dL_law_2168 0 rfl ?_
  refine zl_iconst hH (x := 1) dL_law_2170 rfl ?_
  refine zl_iadd hH dL_law_2171 ?_
  refine zl_sld hH hL (6 * t + 1) (nI_add (6 * t) 1) (by omega) dL_law_2172 ?_
  refine zl_aload_n hH dL_law_2173 rfl 1 rfl ?_
  refine zl_iload hH dL_law_2174 0 rfl ?_
  refine zl_iconst hH (x := 2) dL_law_2176 rfl ?_
  refine zl_iadd hH dL_law_2177 ?_
  refine zl_sld hH hL (6 * t + 2) (nI_add (6 * t) 2) (by omega) dL_law_2178 ?_
  refine zl_callK hH hK (c_X11_ways l g (xs (6 * t + 1)) (xs (6 * t + 2))) mt_X11_ways wd_1107 wd_1108 ci_10 wd_1106 rfl ⟨Nat.le_of_ble_eq_true rfl, Nat.le_of_ble_eq_true rfl⟩ rfl rfl ⟨by omega, by omega⟩ (rest := []) rfl (Nat.le_of_ble_eq_true rfl) dL_law_2179 ?_
  refine zl_aload_n hH dL_law_2182 rfl 3 rfl ?_
  refine zl_aload_n hH dL_law_2183 rfl 1 rfl ?_
  refine zl_iload hH dL_law_2184 0 rfl ?_
  refine zl_iconst hH (x := 1) dL_law_2186 rfl ?_
  refine zl_iadd hH dL_law_2187 ?_
  refine zl_sld hH hL (6 * t + 1) (nI_add (6 * t) 1) (by omega) dL_law_2188 ?_
  refine zl_aload_n hH dL_law_2189 rfl 1 rfl ?_
  refine zl_iload hH dL_law_2190 0 rfl ?_
  refine zl_iconst hH (x := 2) dL_law_2192 rfl ?_
  refine zl_iadd hH dL_law_2193 ?_
  refine zl_sld hH hL (6 * t + 2) (nI_add (6 * t) 2) (by omega) dL_law_2194 ?_
  refine zl_callM hH hM (c_X12_ways l g (xs (6 * t + 1)) (xs (6 * t + 2))) mt_X12_ways wd_1884 wd_1885 ci_11 wd_1883 rfl ⟨Nat.le_of_ble_eq_true rfl, Nat.le_of_ble_eq_true rfl⟩ rfl rfl ⟨by omega, by omega⟩ (rest := [.int r]) rfl (Nat.le_of_ble_eq_true rfl) dL_law_2195 ?_
  refine zl_same hH (tgt := 2327) rfl dL_law_2198 (by decide) ?_
  refine zl_widen (Nat.le_add_right _ 1) (Nat.le_add_right _ 6) ?_
  exact ih k' n' v hr2
theorem lc_46 {p : Program} {l : Launch} {e : Env} {s : State} {m : MethodId} {args : Array Value} {below : List Frame} {meth : Method} {c : Code} {b L : Nat} {xs : Nat → Int32} {g : GT} {ao : Nat} {cO : ClassId} {Q : State → Prop} {cells slots t : Nat} {k n : ST} {v : Int64} (hH : HL p s m args meth c b L xs g ao cO) (hL : L ≤ 3072) (ht : 6 * t + 6 ≤ L) (hcl : cells + 1 ≤ room_1.cells ∧ slots + 6 ≤ room_1.slots) (hr : Rel t k n) (ih : ∀ (k n : ST) (v : Int64), Rel (t + 1) k n → ZL p l e room_1 s m args below meth c g ao cO Q (cells + 1) (slots + 6) k n v 2327 [(4, .int (nI (6 * t))), (0, .ref b), (1, .ref (g.2.1 10)), (2, .ref (g.2.1 11)), (3, .ref ao)] []) : ZL p l e room_1 s m args below meth c g ao cO Q cells slots k n v 2203 [(4, .int (nI (6 * t))), (0, .ref b), (1, .ref (g.2.1 10)), (2, .ref (g.2.1 11)), (3, .ref ao)] [] := by
  obtain ⟨r, k', n', hK, hM, hr2⟩ := pair_first t k n (xs (6 * t + 1)) (xs (6 * t + 2)) (by omega) hr
  refine zl_aload_n hH dL_law_2203 rfl 2 rfl ?_
  refine zl_aload_n hH dL_law_2204 rfl 1 rfl ?_
  refine zl_iload hH dL_law_2205 0 rfl ?_
  refine zl_iconst hH (x := 1) dL_law_2207 rfl ?_
  refine zl_iadd hH dL_law_2208 ?_
  refine zl_sld hH hL (6 * t + 1) (nI_add (6 * t) 1) (by omega) dL_law_2209 ?_
  refine zl_aload_n hH dL_law_2210 rfl 1 rfl ?_
  refine zl_iload hH dL_law_2211 0 rfl ?_
  refine zl_iconst hH (x := 2) dL_law_2213 rfl ?_
  refine zl_iadd hH dL_law_2214 ?_
  refine zl_sld hH hL (6 * t + 2) (nI_add (6 * t) 2) (by omega) dL_law_2215 ?_
  refine zl_callK hH hK (c_X11_first l g (xs (6 * t + 1)) (xs (6 * t + 2))) mt_X11_first wd_1111 wd_1112 ci_10 wd_1110 rfl ⟨Nat.le_of_ble_eq_true rfl, Nat.le_of_ble_eq_true rfl⟩ rfl rfl ⟨by omega, by omega⟩ (rest := []) rfl (Nat.le_of_ble_eq_true rfl) dL_law_2216 ?_
  refine zl_aload_n hH dL_law_2219 rfl 3 rfl ?_
  refine zl_aload_n hH dL_law_2220 rfl 1 rfl ?_
  refine zl_iload hH dL_law_2221 0 rfl ?_
  refine zl_iconst hH (x := 1) dL_law_2223 rfl ?_
  refine zl_iadd hH dL_law_2224 ?_
  refine zl_sld hH hL (6 * t + 1) (nI_add (6 * t) 1) (by omega) dL_law_2225 ?_
  refine zl_aload_n hH dL_law_2226 rfl 1 rfl ?_
  refine zl_iload hH dL_law_2227 0 rfl ?_
  refine zl_iconst hH (x := 2) dL_law_2229 rfl ?_
  refine zl_iadd hH dL_law_2230 ?_
  refine zl_sld hH hL (6 * t + 2) (nI_add (6 * t) 2) (by omega) dL_law_2231 ?_
  refine zl_callM hH hM (c_X12_first l g (xs (6 * t + 1)) (xs (6 * t + 2))) mt_X12_first wd_1888 wd_1889 ci_11 wd_1887 rfl ⟨Nat.le_of_ble_eq_true rfl, Nat.le_of_ble_eq_true rfl⟩ rfl rfl ⟨by omega, by omega⟩ (rest := [.int r]) rfl (Nat.le_of_ble_eq_true rfl) dL_law_2232 ?_
  refine zl_same hH (tgt := 2327) rfl dL_law_2235 (by decide) ?_
  refine zl_widen (Nat.le_add_right _ 1) (Nat.le_add_right _ 6) ?_
  exact ih k' n' v hr2
theorem lc_47 {p : Program} {l : Launch} {e : Env} {s : State} {m : MethodId} {args : Array Value} {below : List Frame} {meth : Method} {c : Code} {b L : Nat} {xs : Nat → Int32} {g : GT} {ao : Nat} {cO : ClassId} {Q : State → Prop} {cells slots t : Nat} {k n : ST} {v : Int64} (hH : HL p s m args meth c b L xs g ao cO) (hL : L ≤ 3072) (ht : 6 * t + 6 ≤ L) (hcl : cells + 1 ≤ room_1.cells ∧ slots + 6 ≤ room_1.slots) (hr : Rel t k n) (ih : ∀ (k n : ST) (v : Int64), Rel (t + 1) k n → ZL p l e room_1 s m args below meth c g ao cO Q (cells + 1) (slots + 6) k n v 2327 [(4, .int (nI (6 * t))), (0, .ref b), (1, .ref (g.2.1 10)), (2, .ref (g.2.1 11)), (3, .ref ao)] []) : ZL p l e room_1 s m args below meth c g ao cO Q cells slots k n v 2240 [(4, .int (nI (6 * t))), (0, .ref b), (1, .ref (g.2.1 10)), (2, .ref (g.2.1 11)), (3, .ref ao)] [] := by
  obtain ⟨r, k', n', hK, hM, hr2⟩ := pair_better t k n (xs (6 * t + 1)) (by omega) hr
  refine zl_aload_n hH dL_law_2240 rfl 2 rfl ?_
  refine zl_aload_n hH dL_law_2241 rfl 1 rfl ?_
  refine zl_iload hH dL_law_2242 0 rfl ?_
  refine zl_iconst hH (x := 1) dL_law_2244 rfl ?_
  refine zl_iadd hH dL_law_2245 ?_
  refine zl_sld hH hL (6 * t + 1) (nI_add (6 * t) 1) (by omega) dL_law_2246 ?_
  refine zl_callK hH hK (c_X11_better l g (xs (6 * t + 1))) mt_X11_better wd_1115 wd_1116 ci_10 wd_1114 rfl ⟨Nat.le_of_ble_eq_true rfl, Nat.le_of_ble_eq_true rfl⟩ rfl rfl ⟨by omega, by omega⟩ (rest := []) rfl (Nat.le_of_ble_eq_true rfl) dL_law_2247 ?_
  refine zl_aload_n hH dL_law_2250 rfl 3 rfl ?_
  refine zl_aload_n hH dL_law_2251 rfl 1 rfl ?_
  refine zl_iload hH dL_law_2252 0 rfl ?_
  refine zl_iconst hH (x := 1) dL_law_2254 rfl ?_
  refine zl_iadd hH dL_law_2255 ?_
  refine zl_sld hH hL (6 * t + 1) (nI_add (6 * t) 1) (by omega) dL_law_2256 ?_
  refine zl_callM hH hM (c_X12_better l g (xs (6 * t + 1))) mt_X12_better wd_1892 wd_1893 ci_11 wd_1891 rfl ⟨Nat.le_of_ble_eq_true rfl, Nat.le_of_ble_eq_true rfl⟩ rfl rfl ⟨by omega, by omega⟩ (rest := [.int r]) rfl (Nat.le_of_ble_eq_true rfl) dL_law_2257 ?_
  refine zl_same hH (tgt := 2327) rfl dL_law_2260 (by decide) ?_
  refine zl_widen (Nat.le_add_right _ 1) (Nat.le_add_right _ 6) ?_
  exact ih k' n' v hr2
theorem lc_48 {p : Program} {l : Launch} {e : Env} {s : State} {m : MethodId} {args : Array Value} {below : List Frame} {meth : Method} {c : Code} {b L : Nat} {xs : Nat → Int32} {g : GT} {ao : Nat} {cO : ClassId} {Q : State → Prop} {cells slots t : Nat} {k n : ST} {v : Int64} (hH : HL p s m args meth c b L xs g ao cO) (hL : L ≤ 3072) (ht : 6 * t + 6 ≤ L) (hcl : cells + 1 ≤ room_1.cells ∧ slots + 6 ≤ room_1.slots) (hr : Rel t k n) (ih : ∀ (k n : ST) (v : Int64), Rel (t + 1) k n → ZL p l e room_1 s m args below meth c g ao cO Q (cells + 1) (slots + 6) k n v 2327 [(4, .int (nI (6 * t))), (0, .ref b), (1, .ref (g.2.1 10)), (2, .ref (g.2.1 11)), (3, .ref ao)] []) : ZL p l e room_1 s m args below meth c g ao cO Q cells slots k n v 2265 [(4, .int (nI (6 * t))), (0, .ref b), (1, .ref (g.2.1 10)), (2, .ref (g.2.1 11)), (3, .ref ao)] [] := by
  obtain ⟨r, k', n', hK, hM, hr2⟩ := pair_order t k n (xs (6 * t + 1)) (xs (6 * t + 2)) (by omega) hr
  refine zl_aload_n hH dL_law_2265 rfl 2 rfl ?_
  refine zl_aload_n hH dL_law_2266 rfl 1 rfl ?_
  refine zl_iload hH dL_law_2267 0 rfl ?_
  refine zl_iconst hH (x := 1) dL_law_2269 rfl ?_
  refine zl_iadd hH dL_law_2270 ?_
  refine zl_sld hH hL (6 * t + 1) (nI_add (6 * t) 1) (by omega) dL_law_2271 ?_
  refine zl_aload_n hH dL_law_2272 rfl 1 rfl ?_
  refine zl_iload hH dL_law_2273 0 rfl ?_
  refine zl_iconst hH (x := 2) dL_law_2275 rfl ?_
  refine zl_iadd hH dL_law_2276 ?_
  refine zl_sld hH hL (6 * t + 2) (nI_add (6 * t) 2) (by omega) dL_law_2277 ?_
  refine zl_callK hH hK (c_X11_order l g (xs (6 * t + 1)) (xs (6 * t + 2))) mt_X11_order wd_1123 wd_1124 ci_10 wd_1122 rfl ⟨Nat.le_of_ble_eq_true rfl, Nat.le_of_ble_eq_true rfl⟩ rfl rfl ⟨by omega, by omega⟩ (rest := []) rfl (Nat.le_of_ble_eq_true rfl) dL_law_2278 ?_
  refine zl_aload_n hH dL_law_2281 rfl 3 rfl ?_
  refine zl_aload_n hH dL_law_2282 rfl 1 rfl ?_
  refine zl_iload hH dL_law_2283 0 rfl ?_
  refine zl_iconst hH (x := 1) dL_law_2285 rfl ?_
  refine zl_iadd hH dL_law_2286 ?_
  refine zl_sld hH hL (6 * t + 1) (nI_add (6 * t) 1) (by omega) dL_law_2287 ?_
  refine zl_aload_n hH dL_law_2288 rfl 1 rfl ?_
  refine zl_iload hH dL_law_2289 0 rfl ?_
  refine zl_iconst hH (x := 2) dL_law_2291 rfl ?_
  refine zl_iadd hH dL_law_2292 ?_
  refine zl_sld hH hL (6 * t + 2) (nI_add (6 * t) 2) (by omega) dL_law_2293 ?_
  refine zl_callM hH hM (c_X12_order l g (xs (6 * t + 1)) (xs (6 * t + 2))) mt_X12_order wd_1903 wd_1904 ci_11 wd_1902 rfl ⟨Nat.le_of_ble_eq_true rfl, Nat.le_of_ble_eq_true rfl⟩ rfl rfl ⟨by omega, by omega⟩ (rest := [.int r]) rfl (Nat.le_of_ble_eq_true rfl) dL_law_2294 ?_
  refine zl_same hH (tgt := 2327) rfl dL_law_2297 (by decide) ?_
  refine zl_widen (Nat.le_add_right _ 1) (Nat.le_add_right _ 6) ?_
  exact ih k' n' v hr2
theorem lc_49 {p : Program} {l : Launch} {e : Env} {s : State} {m : MethodId} {args : Array Value} {below : List Frame} {meth : Method} {c : Code} {b L : Nat} {xs : Nat → Int32} {g : GT} {ao : Nat} {cO : ClassId} {Q : State → Prop} {cells slots t : Nat} {k n : ST} {v : Int64} (hH : HL p s m args meth c b L xs g ao cO) (hL : L ≤ 3072) (ht : 6 * t + 6 ≤ L) (hcl : cells + 1 ≤ room_1.cells ∧ slots + 6 ≤ room_1.slots) (hr : Rel t k n) (ih : ∀ (k n : ST) (v : Int64), Rel (t + 1) k n → ZL p l e room_1 s m args below meth c g ao cO Q (cells + 1) (slots + 6) k n v 2327 [(4, .int (nI (6 * t))), (0, .ref b), (1, .ref (g.2.1 10)), (2, .ref (g.2.1 11)), (3, .ref ao)] []) : ZL p l e room_1 s m args below meth c g ao cO Q cells slots k n v 2302 [(4, .int (nI (6 * t))), (0, .ref b), (1, .ref (g.2.1 10)), (2, .ref (g.2.1 11)), (3, .ref ao)] [] := by
  obtain ⟨r, k', n', hK, hM, hr2⟩ := pair_count t k n (xs (6 * t + 1)) (by omega) hr
  refine zl_aload_n hH dL_law_2302 rfl 2 rfl ?_
  refine zl_aload_n hH dL_law_2303 rfl 1 rfl ?_
  refine zl_iload hH dL_law_2304 0 rfl ?_
  refine zl_iconst hH (x := 1) dL_law_2306 rfl ?_
  refine zl_iadd hH dL_law_2307 ?_
  refine zl_sld hH hL (6 * t + 1) (nI_add (6 * t) 1) (by omega) dL_law_2308 ?_
  refine zl_callK hH hK (c_X11_count l g (xs (6 * t + 1))) mt_X11_count wd_1131 wd_1132 ci_10 wd_1130 rfl ⟨Nat.le_of_ble_eq_true rfl, Nat.le_of_ble_eq_true rfl⟩ rfl rfl ⟨by omega, by omega⟩ (rest := []) rfl (Nat.le_of_ble_eq_true rfl) dL_law_2309 ?_
  refine zl_aload_n hH dL_law_2312 rfl 3 rfl ?_
  refine zl_aload_n hH dL_law_2313 rfl 1 rfl ?_
  refine zl_iload hH dL_law_2314 0 rfl ?_
  refine zl_iconst hH (x := 1) dL_law_2316 rfl ?_
  refine zl_iadd hH dL_law_2317 ?_
  refine zl_sld hH hL (6 * t + 1) (nI_add (6 * t) 1) (by omega) dL_law_2318 ?_
  refine zl_callM hH hM (c_X12_count l g (xs (6 * t + 1))) mt_X12_count wd_1911 wd_1912 ci_11 wd_1910 rfl ⟨Nat.le_of_ble_eq_true rfl, Nat.le_of_ble_eq_true rfl⟩ rfl rfl ⟨by omega, by omega⟩ (rest := [.int r]) rfl (Nat.le_of_ble_eq_true rfl) dL_law_2319 ?_
  refine zl_same hH (tgt := 2327) rfl dL_law_2322 (by decide) ?_
  refine zl_widen (Nat.le_add_right _ 1) (Nat.le_add_right _ 6) ?_
  exact ih k' n' v hr2
