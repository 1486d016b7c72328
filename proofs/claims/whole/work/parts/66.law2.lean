/-! THE LAW: its cases 7 to 9 -/
theorem dL_law_347 : decode cL_law 347 = .ok (.aload_n 1, 1) := by decide +kernel
theorem dL_law_348 : decode cL_law 348 = .ok (.aload_n 0, 1) := by decide +kernel
theorem dL_law_349 : decode cL_law 349 = .ok (.iload_n 3, 1) := by decide +kernel
theorem dL_law_350 : decode cL_law 350 = .ok (.iconst 1, 1) := by decide +kernel
theorem dL_law_351 : decode cL_law 351 = .ok (.iadd, 1) := by decide +kernel
theorem dL_law_352 : decode cL_law 352 = .ok (.iaload, 1) := by decide +kernel
theorem dL_law_353 : decode cL_law 353 = .ok (.aload_n 0, 1) := by decide +kernel
theorem dL_law_354 : decode cL_law 354 = .ok (.iload_n 3, 1) := by decide +kernel
theorem dL_law_355 : decode cL_law 355 = .ok (.iconst 2, 1) := by decide +kernel
theorem dL_law_356 : decode cL_law 356 = .ok (.iadd, 1) := by decide +kernel
theorem dL_law_357 : decode cL_law 357 = .ok (.iaload, 1) := by decide +kernel
theorem dL_law_358 : decode cL_law 358 = .ok (.aload_n 0, 1) := by decide +kernel
theorem dL_law_359 : decode cL_law 359 = .ok (.iload_n 3, 1) := by decide +kernel
theorem dL_law_360 : decode cL_law 360 = .ok (.iconst 3, 1) := by decide +kernel
theorem dL_law_361 : decode cL_law 361 = .ok (.iadd, 1) := by decide +kernel
theorem dL_law_362 : decode cL_law 362 = .ok (.iaload, 1) := by decide +kernel
theorem dL_law_363 : decode cL_law 363 = .ok (.invokevirtual 47, 3) := by decide +kernel
theorem dL_law_366 : decode cL_law 366 = .ok (.aload_n 2, 1) := by decide +kernel
theorem dL_law_367 : decode cL_law 367 = .ok (.aload_n 0, 1) := by decide +kernel
theorem dL_law_368 : decode cL_law 368 = .ok (.iload_n 3, 1) := by decide +kernel
theorem dL_law_369 : decode cL_law 369 = .ok (.iconst 1, 1) := by decide +kernel
theorem dL_law_370 : decode cL_law 370 = .ok (.iadd, 1) := by decide +kernel
theorem dL_law_371 : decode cL_law 371 = .ok (.iaload, 1) := by decide +kernel
theorem dL_law_372 : decode cL_law 372 = .ok (.aload_n 0, 1) := by decide +kernel
theorem dL_law_373 : decode cL_law 373 = .ok (.iload_n 3, 1) := by decide +kernel
theorem dL_law_374 : decode cL_law 374 = .ok (.iconst 2, 1) := by decide +kernel
theorem dL_law_375 : decode cL_law 375 = .ok (.iadd, 1) := by decide +kernel
theorem dL_law_376 : decode cL_law 376 = .ok (.iaload, 1) := by decide +kernel
theorem dL_law_377 : decode cL_law 377 = .ok (.aload_n 0, 1) := by decide +kernel
theorem dL_law_378 : decode cL_law 378 = .ok (.iload_n 3, 1) := by decide +kernel
theorem dL_law_379 : decode cL_law 379 = .ok (.iconst 3, 1) := by decide +kernel
theorem dL_law_380 : decode cL_law 380 = .ok (.iadd, 1) := by decide +kernel
theorem dL_law_381 : decode cL_law 381 = .ok (.iaload, 1) := by decide +kernel
theorem dL_law_382 : decode cL_law 382 = .ok (.invokevirtual 51, 3) := by decide +kernel
theorem dL_law_385 : decode cL_law 385 = .ok (.if_icmp .eq 462, 3) := by decide +kernel
theorem dL_law_390 : decode cL_law 390 = .ok (.aload_n 1, 1) := by decide +kernel
theorem dL_law_391 : decode cL_law 391 = .ok (.aload_n 0, 1) := by decide +kernel
theorem dL_law_392 : decode cL_law 392 = .ok (.iload_n 3, 1) := by decide +kernel
theorem dL_law_393 : decode cL_law 393 = .ok (.iconst 1, 1) := by decide +kernel
theorem dL_law_394 : decode cL_law 394 = .ok (.iadd, 1) := by decide +kernel
theorem dL_law_395 : decode cL_law 395 = .ok (.iaload, 1) := by decide +kernel
theorem dL_law_396 : decode cL_law 396 = .ok (.invokevirtual 52, 3) := by decide +kernel
theorem dL_law_399 : decode cL_law 399 = .ok (.aload_n 2, 1) := by decide +kernel
theorem dL_law_400 : decode cL_law 400 = .ok (.aload_n 0, 1) := by decide +kernel
theorem dL_law_401 : decode cL_law 401 = .ok (.iload_n 3, 1) := by decide +kernel
theorem dL_law_402 : decode cL_law 402 = .ok (.iconst 1, 1) := by decide +kernel
theorem dL_law_403 : decode cL_law 403 = .ok (.iadd, 1) := by decide +kernel
theorem dL_law_404 : decode cL_law 404 = .ok (.iaload, 1) := by decide +kernel
theorem dL_law_405 : decode cL_law 405 = .ok (.invokevirtual 55, 3) := by decide +kernel
theorem dL_law_408 : decode cL_law 408 = .ok (.if_icmp .eq 439, 3) := by decide +kernel
theorem dL_law_413 : decode cL_law 413 = .ok (.aload_n 1, 1) := by decide +kernel
theorem dL_law_414 : decode cL_law 414 = .ok (.aload_n 0, 1) := by decide +kernel
theorem dL_law_415 : decode cL_law 415 = .ok (.iload_n 3, 1) := by decide +kernel
theorem dL_law_416 : decode cL_law 416 = .ok (.iconst 1, 1) := by decide +kernel
theorem dL_law_417 : decode cL_law 417 = .ok (.iadd, 1) := by decide +kernel
theorem dL_law_418 : decode cL_law 418 = .ok (.iaload, 1) := by decide +kernel
theorem dL_law_419 : decode cL_law 419 = .ok (.aload_n 0, 1) := by decide +kernel
theorem dL_law_420 : decode cL_law 420 = .ok (.iload_n 3, 1) := by decide +kernel
theorem dL_law_421 : decode cL_law 421 = .ok (.iconst 2, 1) := by decide +kernel
theorem dL_law_422 : decode cL_law 422 = .ok (.iadd, 1) := by decide +kernel
theorem dL_law_423 : decode cL_law 423 = .ok (.iaload, 1) := by decide +kernel
theorem dL_law_424 : decode cL_law 424 = .ok (.invokevirtual 56, 3) := by decide +kernel
theorem dL_law_427 : decode cL_law 427 = .ok (.aload_n 2, 1) := by decide +kernel
theorem dL_law_428 : decode cL_law 428 = .ok (.aload_n 0, 1) := by decide +kernel
theorem dL_law_429 : decode cL_law 429 = .ok (.iload_n 3, 1) := by decide +kernel
theorem dL_law_430 : decode cL_law 430 = .ok (.iconst 1, 1) := by decide +kernel
theorem dL_law_431 : decode cL_law 431 = .ok (.iadd, 1) := by decide +kernel
theorem dL_law_432 : decode cL_law 432 = .ok (.iaload, 1) := by decide +kernel
theorem dL_law_433 : decode cL_law 433 = .ok (.aload_n 0, 1) := by decide +kernel
theorem dL_law_434 : decode cL_law 434 = .ok (.iload_n 3, 1) := by decide +kernel
theorem dL_law_435 : decode cL_law 435 = .ok (.iconst 2, 1) := by decide +kernel
theorem dL_law_436 : decode cL_law 436 = .ok (.iadd, 1) := by decide +kernel
theorem dL_law_437 : decode cL_law 437 = .ok (.iaload, 1) := by decide +kernel
theorem dL_law_438 : decode cL_law 438 = .ok (.invokevirtual 59, 3) := by decide +kernel
theorem dL_law_441 : decode cL_law 441 = .ok (.if_icmp .eq 406, 3) := by decide +kernel
section
variable {p : Program} {l : Launch} {e : Env} {s : State} {m : MethodId} {args : Array Value} {below : List Frame} {meth : Method} {c : Code} {D : va_G} {cs : Nat → ClassId} {A : Nat → Prop} {H : Heap} {locs : List Loc} {cells slots : Nat} {Q : State → Prop} {ls : Array Slot} {b i L : Nat} {xs : Nat → Int32} {uX uN : Nat → Nat} {M N : xm}
theorem law_voices (Z : LX p s m c D cs) (hl : lv_has ls 4 (LV b i uX uN)) (hX : va_X b L xs s s.heap) (hbl : b < s.heap.size) (hbA : ¬ A b) (hA : ∀ q, s.heap.size ≤ q → A q) (hi : i + 4 ≤ L) (hL : L ≤ 256) (hcs : cells ≤ room_1.cells ∧ slots ≤ room_1.slots) (hrel : Rel M N) (hP : va_P D classes (xw S60 uN cs N ++ xw S56 uX cs M) H) (hD : va_D A (xw S60 uN cs N ++ xw S56 uX cs M)) (hS : va_S A s.heap H locs) (K : LK p l e s m args below meth c D cs A cells slots Q ls uX uN) : W p l e room_1 s m args below meth c H locs cells slots Q (F0 m 347 ls []) := by
  obtain ⟨R0, W0, K0, kn, L0, ln, T0, tl, hA0, hB0⟩ := id hrel
  obtain ⟨r, M2, N2, f1, f2, hr⟩ := p_voices (xs (i + 1)) (xs (i + 2)) (xs (i + 3)) hA0 hB0
  obtain ⟨f1, rfl⟩ := ro_inv f1
  refine lv_aload_n Z.1 Z.2.1 dL_law_347 rfl (lv_at hl 2 rfl) ?_
  refine xl_arg Z hl hX hbl hbA hS hi hL 1 1 (by decide) (by decide) dL_law_348 dL_law_349 dL_law_350 dL_law_351 dL_law_352 ?_
  refine xl_arg Z hl hX hbl hbA hS hi hL 2 2 (by decide) (by decide) dL_law_353 dL_law_354 dL_law_355 dL_law_356 dL_law_357 ?_
  refine xl_arg Z hl hX hbl hbA hS hi hL 3 3 (by decide) (by decide) dL_law_358 dL_law_359 dL_law_360 dL_law_361 dL_law_362 ?_
  refine xl_X (M' := M2) (v := r) (As := [.int (xs (i + 1)), .int (xs (i + 2)), .int (xs (i + 3))]) (rest := []) (n := 3) Z (fun hd => kX5_voices l D cs S56 uX hd S56_all (xs (i + 1)) (xs (i + 2)) (xs (i + 3)) M2 r f1) hP hD hS hA (xq_5 xb_635 xb_636 xb_637 xb_45 xb_299) ⟨rfl, by decide +kernel, by decide +kernel, by decide +kernel⟩ rfl ⟨rfl, rfl⟩ ⟨Nat.le_of_ble_eq_true rfl, Nat.le_of_ble_eq_true rfl⟩ hl rfl (Nat.le_of_ble_eq_true rfl) hcs dL_law_363 (fun H locs hP hD hS => ?_)
  refine lv_aload_n Z.1 Z.2.1 dL_law_366 rfl (lv_at hl 1 rfl) ?_
  refine xl_arg Z hl hX hbl hbA hS hi hL 1 1 (by decide) (by decide) dL_law_367 dL_law_368 dL_law_369 dL_law_370 dL_law_371 ?_
  refine xl_arg Z hl hX hbl hbA hS hi hL 2 2 (by decide) (by decide) dL_law_372 dL_law_373 dL_law_374 dL_law_375 dL_law_376 ?_
  refine xl_arg Z hl hX hbl hbA hS hi hL 3 3 (by decide) (by decide) dL_law_377 dL_law_378 dL_law_379 dL_law_380 dL_law_381 ?_
  refine xl_M (N' := N2) (v := r) (As := [.int (xs (i + 1)), .int (xs (i + 2)), .int (xs (i + 3))]) (rest := [.int r]) (n := 3) Z (fun hd => kX6_voices l D cs S60 uN hd S60_all (xs (i + 1)) (xs (i + 2)) (xs (i + 3)) N (r, N2) f2) hP hD hS hA (xq_5 xb_638 xb_639 xb_640 xb_394 xb_504) ⟨rfl, by decide +kernel, by decide +kernel, by decide +kernel⟩ rfl ⟨rfl, rfl⟩ ⟨Nat.le_of_ble_eq_true rfl, Nat.le_of_ble_eq_true rfl⟩ hl rfl (Nat.le_of_ble_eq_true rfl) hcs dL_law_382 (fun H locs hP hD hS => ?_)
  exact lv_icmp_eq (tgt := 847) Z.1 Z.2.1 dL_law_385 (by decide) (fun _ => K M2 N2 H locs hr hP hD hS) (fun h => absurd rfl h)
theorem law_read (Z : LX p s m c D cs) (hl : lv_has ls 4 (LV b i uX uN)) (hX : va_X b L xs s s.heap) (hbl : b < s.heap.size) (hbA : ¬ A b) (hA : ∀ q, s.heap.size ≤ q → A q) (hi : i + 4 ≤ L) (hL : L ≤ 256) (hcs : cells ≤ room_1.cells ∧ slots ≤ room_1.slots) (hrel : Rel M N) (hP : va_P D classes (xw S60 uN cs N ++ xw S56 uX cs M) H) (hD : va_D A (xw S60 uN cs N ++ xw S56 uX cs M)) (hS : va_S A s.heap H locs) (K : LK p l e s m args below meth c D cs A cells slots Q ls uX uN) : W p l e room_1 s m args below meth c H locs cells slots Q (F0 m 390 ls []) := by
  obtain ⟨R0, W0, K0, kn, L0, ln, T0, tl, hA0, hB0⟩ := id hrel
  obtain ⟨r, M2, N2, f1, f2, hr⟩ := p_read (xs (i + 1)) hA0 hB0
  refine lv_aload_n Z.1 Z.2.1 dL_law_390 rfl (lv_at hl 2 rfl) ?_
  refine xl_arg Z hl hX hbl hbA hS hi hL 1 1 (by decide) (by decide) dL_law_391 dL_law_392 dL_law_393 dL_law_394 dL_law_395 ?_
  refine xl_X (M' := M2) (v := r) (As := [.int (xs (i + 1))]) (rest := []) (n := 1) Z (fun hd => kX5_read l D cs S56 uX hd S56_all (xs (i + 1)) M (r, M2) f1) hP hD hS hA (xq_5 xb_641 xb_642 xb_643 xb_45 xb_301) ⟨rfl, by decide +kernel, by decide +kernel, by decide +kernel⟩ rfl ⟨rfl, rfl⟩ ⟨Nat.le_of_ble_eq_true rfl, Nat.le_of_ble_eq_true rfl⟩ hl rfl (Nat.le_of_ble_eq_true rfl) hcs dL_law_396 (fun H locs hP hD hS => ?_)
  refine lv_aload_n Z.1 Z.2.1 dL_law_399 rfl (lv_at hl 1 rfl) ?_
  refine xl_arg Z hl hX hbl hbA hS hi hL 1 1 (by decide) (by decide) dL_law_400 dL_law_401 dL_law_402 dL_law_403 dL_law_404 ?_
  refine xl_M (N' := N2) (v := r) (As := [.int (xs (i + 1))]) (rest := [.int r]) (n := 1) Z (fun hd => kX6_read l D cs S60 uN hd S60_all (xs (i + 1)) N (r, N2) f2) hP hD hS hA (xq_5 xb_644 xb_645 xb_646 xb_394 xb_510) ⟨rfl, by decide +kernel, by decide +kernel, by decide +kernel⟩ rfl ⟨rfl, rfl⟩ ⟨Nat.le_of_ble_eq_true rfl, Nat.le_of_ble_eq_true rfl⟩ hl rfl (Nat.le_of_ble_eq_true rfl) hcs dL_law_405 (fun H locs hP hD hS => ?_)
  exact lv_icmp_eq (tgt := 847) Z.1 Z.2.1 dL_law_408 (by decide) (fun _ => K M2 N2 H locs hr hP hD hS) (fun h => absurd rfl h)
theorem law_bill (Z : LX p s m c D cs) (hl : lv_has ls 4 (LV b i uX uN)) (hX : va_X b L xs s s.heap) (hbl : b < s.heap.size) (hbA : ¬ A b) (hA : ∀ q, s.heap.size ≤ q → A q) (hi : i + 4 ≤ L) (hL : L ≤ 256) (hcs : cells ≤ room_1.cells ∧ slots ≤ room_1.slots) (hrel : Rel M N) (hP : va_P D classes (xw S60 uN cs N ++ xw S56 uX cs M) H) (hD : va_D A (xw S60 uN cs N ++ xw S56 uX cs M)) (hS : va_S A s.heap H locs) (K : LK p l e s m args below meth c D cs A cells slots Q ls uX uN) : W p l e room_1 s m args below meth c H locs cells slots Q (F0 m 413 ls []) := by
  obtain ⟨R0, W0, K0, kn, L0, ln, T0, tl, hA0, hB0⟩ := id hrel
  obtain ⟨r, f1, f2⟩ := p_bill (xs (i + 1)) (xs (i + 2)) hA0 hB0
  refine lv_aload_n Z.1 Z.2.1 dL_law_413 rfl (lv_at hl 2 rfl) ?_
  refine xl_arg Z hl hX hbl hbA hS hi hL 1 1 (by decide) (by decide) dL_law_414 dL_law_415 dL_law_416 dL_law_417 dL_law_418 ?_
  refine xl_arg Z hl hX hbl hbA hS hi hL 2 2 (by decide) (by decide) dL_law_419 dL_law_420 dL_law_421 dL_law_422 dL_law_423 ?_
  refine xl_X (M' := M) (v := r) (As := [.int (xs (i + 1)), .int (xs (i + 2))]) (rest := []) (n := 2) Z (fun hd => kX5_bill l D cs S56 uX hd S56_all (xs (i + 1)) (xs (i + 2)) M r f1) hP hD hS hA (xq_5 xb_647 xb_648 xb_649 xb_45 xb_302) ⟨rfl, by decide +kernel, by decide +kernel, by decide +kernel⟩ rfl ⟨rfl, rfl⟩ ⟨Nat.le_of_ble_eq_true rfl, Nat.le_of_ble_eq_true rfl⟩ hl rfl (Nat.le_of_ble_eq_true rfl) hcs dL_law_424 (fun H locs hP hD hS => ?_)
  refine lv_aload_n Z.1 Z.2.1 dL_law_427 rfl (lv_at hl 1 rfl) ?_
  refine xl_arg Z hl hX hbl hbA hS hi hL 1 1 (by decide) (by decide) dL_law_428 dL_law_429 dL_law_430 dL_law_431 dL_law_432 ?_
  refine xl_arg Z hl hX hbl hbA hS hi hL 2 2 (by decide) (by decide) dL_law_433 dL_law_434 dL_law_435 dL_law_436 dL_law_437 ?_
  refine xl_M (N' := N) (v := r) (As := [.int (xs (i + 1)), .int (xs (i + 2))]) (rest := [.int r]) (n := 2) Z (fun hd => kX6_bill l D cs S60 uN hd S60_all (xs (i + 1)) (xs (i + 2)) N r f2) hP hD hS hA (xq_5 xb_650 xb_651 xb_652 xb_394 xb_511) ⟨rfl, by decide +kernel, by decide +kernel, by decide +kernel⟩ rfl ⟨rfl, rfl⟩ ⟨Nat.le_of_ble_eq_true rfl, Nat.le_of_ble_eq_true rfl⟩ hl rfl (Nat.le_of_ble_eq_true rfl) hcs dL_law_438 (fun H locs hP hD hS => ?_)
  exact lv_icmp_eq (tgt := 847) Z.1 Z.2.1 dL_law_441 (by decide) (fun _ => K M N H locs hrel hP hD hS) (fun h => absurd rfl h)
end
