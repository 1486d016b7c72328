/-! THE LAW: its cases 10 to 13 -/
theorem dL_law_446 : decode cL_law 446 = .ok (.aload_n 1, 1) := by decide +kernel
theorem dL_law_447 : decode cL_law 447 = .ok (.aload_n 0, 1) := by decide +kernel
theorem dL_law_448 : decode cL_law 448 = .ok (.iload_n 3, 1) := by decide +kernel
theorem dL_law_449 : decode cL_law 449 = .ok (.iconst 1, 1) := by decide +kernel
theorem dL_law_450 : decode cL_law 450 = .ok (.iadd, 1) := by decide +kernel
theorem dL_law_451 : decode cL_law 451 = .ok (.iaload, 1) := by decide +kernel
theorem dL_law_452 : decode cL_law 452 = .ok (.aload_n 0, 1) := by decide +kernel
theorem dL_law_453 : decode cL_law 453 = .ok (.iload_n 3, 1) := by decide +kernel
theorem dL_law_454 : decode cL_law 454 = .ok (.iconst 2, 1) := by decide +kernel
theorem dL_law_455 : decode cL_law 455 = .ok (.iadd, 1) := by decide +kernel
theorem dL_law_456 : decode cL_law 456 = .ok (.iaload, 1) := by decide +kernel
theorem dL_law_457 : decode cL_law 457 = .ok (.invokevirtual 60, 3) := by decide +kernel
theorem dL_law_460 : decode cL_law 460 = .ok (.aload_n 2, 1) := by decide +kernel
theorem dL_law_461 : decode cL_law 461 = .ok (.aload_n 0, 1) := by decide +kernel
theorem dL_law_462 : decode cL_law 462 = .ok (.iload_n 3, 1) := by decide +kernel
theorem dL_law_463 : decode cL_law 463 = .ok (.iconst 1, 1) := by decide +kernel
theorem dL_law_464 : decode cL_law 464 = .ok (.iadd, 1) := by decide +kernel
theorem dL_law_465 : decode cL_law 465 = .ok (.iaload, 1) := by decide +kernel
theorem dL_law_466 : decode cL_law 466 = .ok (.aload_n 0, 1) := by decide +kernel
theorem dL_law_467 : decode cL_law 467 = .ok (.iload_n 3, 1) := by decide +kernel
theorem dL_law_468 : decode cL_law 468 = .ok (.iconst 2, 1) := by decide +kernel
theorem dL_law_469 : decode cL_law 469 = .ok (.iadd, 1) := by decide +kernel
theorem dL_law_470 : decode cL_law 470 = .ok (.iaload, 1) := by decide +kernel
theorem dL_law_471 : decode cL_law 471 = .ok (.invokevirtual 63, 3) := by decide +kernel
theorem dL_law_474 : decode cL_law 474 = .ok (.if_icmp .eq 373, 3) := by decide +kernel
theorem dL_law_479 : decode cL_law 479 = .ok (.aload_n 1, 1) := by decide +kernel
theorem dL_law_480 : decode cL_law 480 = .ok (.aload_n 0, 1) := by decide +kernel
theorem dL_law_481 : decode cL_law 481 = .ok (.iload_n 3, 1) := by decide +kernel
theorem dL_law_482 : decode cL_law 482 = .ok (.iconst 1, 1) := by decide +kernel
theorem dL_law_483 : decode cL_law 483 = .ok (.iadd, 1) := by decide +kernel
theorem dL_law_484 : decode cL_law 484 = .ok (.iaload, 1) := by decide +kernel
theorem dL_law_485 : decode cL_law 485 = .ok (.aload_n 0, 1) := by decide +kernel
theorem dL_law_486 : decode cL_law 486 = .ok (.iload_n 3, 1) := by decide +kernel
theorem dL_law_487 : decode cL_law 487 = .ok (.iconst 2, 1) := by decide +kernel
theorem dL_law_488 : decode cL_law 488 = .ok (.iadd, 1) := by decide +kernel
theorem dL_law_489 : decode cL_law 489 = .ok (.iaload, 1) := by decide +kernel
theorem dL_law_490 : decode cL_law 490 = .ok (.invokevirtual 64, 3) := by decide +kernel
theorem dL_law_493 : decode cL_law 493 = .ok (.aload_n 2, 1) := by decide +kernel
theorem dL_law_494 : decode cL_law 494 = .ok (.aload_n 0, 1) := by decide +kernel
theorem dL_law_495 : decode cL_law 495 = .ok (.iload_n 3, 1) := by decide +kernel
theorem dL_law_496 : decode cL_law 496 = .ok (.iconst 1, 1) := by decide +kernel
theorem dL_law_497 : decode cL_law 497 = .ok (.iadd, 1) := by decide +kernel
theorem dL_law_498 : decode cL_law 498 = .ok (.iaload, 1) := by decide +kernel
theorem dL_law_499 : decode cL_law 499 = .ok (.aload_n 0, 1) := by decide +kernel
theorem dL_law_500 : decode cL_law 500 = .ok (.iload_n 3, 1) := by decide +kernel
theorem dL_law_501 : decode cL_law 501 = .ok (.iconst 2, 1) := by decide +kernel
theorem dL_law_502 : decode cL_law 502 = .ok (.iadd, 1) := by decide +kernel
theorem dL_law_503 : decode cL_law 503 = .ok (.iaload, 1) := by decide +kernel
theorem dL_law_504 : decode cL_law 504 = .ok (.invokevirtual 67, 3) := by decide +kernel
theorem dL_law_507 : decode cL_law 507 = .ok (.if_icmp .eq 340, 3) := by decide +kernel
theorem dL_law_512 : decode cL_law 512 = .ok (.aload_n 1, 1) := by decide +kernel
theorem dL_law_513 : decode cL_law 513 = .ok (.invokevirtual 68, 3) := by decide +kernel
theorem dL_law_516 : decode cL_law 516 = .ok (.aload_n 2, 1) := by decide +kernel
theorem dL_law_517 : decode cL_law 517 = .ok (.invokevirtual 71, 3) := by decide +kernel
theorem dL_law_520 : decode cL_law 520 = .ok (.if_icmp .eq 327, 3) := by decide +kernel
theorem dL_law_525 : decode cL_law 525 = .ok (.aload_n 1, 1) := by decide +kernel
theorem dL_law_526 : decode cL_law 526 = .ok (.aload_n 0, 1) := by decide +kernel
theorem dL_law_527 : decode cL_law 527 = .ok (.iload_n 3, 1) := by decide +kernel
theorem dL_law_528 : decode cL_law 528 = .ok (.iconst 1, 1) := by decide +kernel
theorem dL_law_529 : decode cL_law 529 = .ok (.iadd, 1) := by decide +kernel
theorem dL_law_530 : decode cL_law 530 = .ok (.iaload, 1) := by decide +kernel
theorem dL_law_531 : decode cL_law 531 = .ok (.invokevirtual 72, 3) := by decide +kernel
theorem dL_law_534 : decode cL_law 534 = .ok (.aload_n 2, 1) := by decide +kernel
theorem dL_law_535 : decode cL_law 535 = .ok (.aload_n 0, 1) := by decide +kernel
theorem dL_law_536 : decode cL_law 536 = .ok (.iload_n 3, 1) := by decide +kernel
theorem dL_law_537 : decode cL_law 537 = .ok (.iconst 1, 1) := by decide +kernel
theorem dL_law_538 : decode cL_law 538 = .ok (.iadd, 1) := by decide +kernel
theorem dL_law_539 : decode cL_law 539 = .ok (.iaload, 1) := by decide +kernel
theorem dL_law_540 : decode cL_law 540 = .ok (.invokevirtual 75, 3) := by decide +kernel
theorem dL_law_543 : decode cL_law 543 = .ok (.if_icmp .eq 304, 3) := by decide +kernel
section
variable {p : Program} {l : Launch} {e : Env} {s : State} {m : MethodId} {args : Array Value} {below : List Frame} {meth : Method} {c : Code} {D : va_G} {cs : Nat → ClassId} {A : Nat → Prop} {H : Heap} {locs : List Loc} {cells slots : Nat} {Q : State → Prop} {ls : Array Slot} {b i L : Nat} {xs : Nat → Int32} {uX uN : Nat → Nat} {M N : xm}
theorem law_mile (Z : LX p s m c D cs) (hl : lv_has ls 4 (LV b i uX uN)) (hX : va_X b L xs s s.heap) (hbl : b < s.heap.size) (hbA : ¬ A b) (hA : ∀ q, s.heap.size ≤ q → A q) (hi : i + 4 ≤ L) (hL : L ≤ 256) (hcs : cells ≤ room_1.cells ∧ slots ≤ room_1.slots) (hrel : Rel M N) (hP : va_P D classes (xw S60 uN cs N ++ xw S56 uX cs M) H) (hD : va_D A (xw S60 uN cs N ++ xw S56 uX cs M)) (hS : va_S A s.heap H locs) (K : LK p l e s m args below meth c D cs A cells slots Q ls uX uN) : W p l e room_1 s m args below meth c H locs cells slots Q (F0 m 446 ls []) := by
  obtain ⟨R0, W0, K0, kn, L0, ln, T0, tl, hA0, hB0⟩ := id hrel
  obtain ⟨r, M2, N2, f1, f2, hr⟩ := p_mile (xs (i + 1)) (xs (i + 2)) hA0 hB0
  refine lv_aload_n Z.1 Z.2.1 dL_law_446 rfl (lv_at hl 2 rfl) ?_
  refine xl_arg Z hl hX hbl hbA hS hi hL 1 1 (by decide) (by decide) dL_law_447 dL_law_448 dL_law_449 dL_law_450 dL_law_451 ?_
  refine xl_arg Z hl hX hbl hbA hS hi hL 2 2 (by decide) (by decide) dL_law_452 dL_law_453 dL_law_454 dL_law_455 dL_law_456 ?_
  refine xl_X (M' := M2) (v := r) (As := [.int (xs (i + 1)), .int (xs (i + 2))]) (rest := []) (n := 2) Z (fun hd => kX5_mile l D cs S56 uX hd S56_all (xs (i + 1)) (xs (i + 2)) M (r, M2) f1) hP hD hS hA (xq_5 xb_653 xb_654 xb_655 xb_45 xb_314) ⟨rfl, by decide +kernel, by decide +kernel, by decide +kernel⟩ rfl ⟨rfl, rfl⟩ ⟨Nat.le_of_ble_eq_true rfl, Nat.le_of_ble_eq_true rfl⟩ hl rfl (Nat.le_of_ble_eq_true rfl) hcs dL_law_457 (fun H locs hP hD hS => ?_)
  refine lv_aload_n Z.1 Z.2.1 dL_law_460 rfl (lv_at hl 1 rfl) ?_
  refine xl_arg Z hl hX hbl hbA hS hi hL 1 1 (by decide) (by decide) dL_law_461 dL_law_462 dL_law_463 dL_law_464 dL_law_465 ?_
  refine xl_arg Z hl hX hbl hbA hS hi hL 2 2 (by decide) (by decide) dL_law_466 dL_law_467 dL_law_468 dL_law_469 dL_law_470 ?_
  refine xl_M (N' := N2) (v := r) (As := [.int (xs (i + 1)), .int (xs (i + 2))]) (rest := [.int r]) (n := 2) Z (fun hd => kX6_mile l D cs S60 uN hd S60_all (xs (i + 1)) (xs (i + 2)) N (r, N2) f2) hP hD hS hA (xq_5 xb_656 xb_657 xb_658 xb_394 xb_527) ⟨rfl, by decide +kernel, by decide +kernel, by decide +kernel⟩ rfl ⟨rfl, rfl⟩ ⟨Nat.le_of_ble_eq_true rfl, Nat.le_of_ble_eq_true rfl⟩ hl rfl (Nat.le_of_ble_eq_true rfl) hcs dL_law_471 (fun H locs hP hD hS => ?_)
  exact lv_icmp_eq (tgt := 847) Z.1 Z.2.1 dL_law_474 (by decide) (fun _ => K M2 N2 H locs hr hP hD hS) (fun h => absurd rfl h)
theorem law_who (Z : LX p s m c D cs) (hl : lv_has ls 4 (LV b i uX uN)) (hX : va_X b L xs s s.heap) (hbl : b < s.heap.size) (hbA : ¬ A b) (hA : ∀ q, s.heap.size ≤ q → A q) (hi : i + 4 ≤ L) (hL : L ≤ 256) (hcs : cells ≤ room_1.cells ∧ slots ≤ room_1.slots) (hrel : Rel M N) (hP : va_P D classes (xw S60 uN cs N ++ xw S56 uX cs M) H) (hD : va_D A (xw S60 uN cs N ++ xw S56 uX cs M)) (hS : va_S A s.heap H locs) (K : LK p l e s m args below meth c D cs A cells slots Q ls uX uN) : W p l e room_1 s m args below meth c H locs cells slots Q (F0 m 479 ls []) := by
  obtain ⟨R0, W0, K0, kn, L0, ln, T0, tl, hA0, hB0⟩ := id hrel
  obtain ⟨r, M2, N2, f1, f2, hr⟩ := p_who (xs (i + 1)) (xs (i + 2)) hA0 hB0
  refine lv_aload_n Z.1 Z.2.1 dL_law_479 rfl (lv_at hl 2 rfl) ?_
  refine xl_arg Z hl hX hbl hbA hS hi hL 1 1 (by decide) (by decide) dL_law_480 dL_law_481 dL_law_482 dL_law_483 dL_law_484 ?_
  refine xl_arg Z hl hX hbl hbA hS hi hL 2 2 (by decide) (by decide) dL_law_485 dL_law_486 dL_law_487 dL_law_488 dL_law_489 ?_
  refine xl_X (M' := M2) (v := r) (As := [.int (xs (i + 1)), .int (xs (i + 2))]) (rest := []) (n := 2) Z (fun hd => kX5_who l D cs S56 uX hd S56_all (xs (i + 1)) (xs (i + 2)) M (r, M2) f1) hP hD hS hA (xq_5 xb_659 xb_660 xb_661 xb_45 xb_315) ⟨rfl, by decide +kernel, by decide +kernel, by decide +kernel⟩ rfl ⟨rfl, rfl⟩ ⟨Nat.le_of_ble_eq_true rfl, Nat.le_of_ble_eq_true rfl⟩ hl rfl (Nat.le_of_ble_eq_true rfl) hcs dL_law_490 (fun H locs hP hD hS => ?_)
  refine lv_aload_n Z.1 Z.2.1 dL_law_493 rfl (lv_at hl 1 rfl) ?_
  refine xl_arg Z hl hX hbl hbA hS hi hL 1 1 (by decide) (by decide) dL_law_494 dL_law_495 dL_law_496 dL_law_497 dL_law_498 ?_
  refine xl_arg Z hl hX hbl hbA hS hi hL 2 2 (by decide) (by decide) dL_law_499 dL_law_500 dL_law_501 dL_law_502 dL_law_503 ?_
  refine xl_M (N' := N2) (v := r) (As := [.int (xs (i + 1)), .int (xs (i + 2))]) (rest := [.int r]) (n := 2) Z (fun hd => kX6_who l D cs S60 uN hd S60_all (xs (i + 1)) (xs (i + 2)) N (r, N2) f2) hP hD hS hA (xq_5 xb_662 xb_663 xb_664 xb_394 xb_528) ⟨rfl, by decide +kernel, by decide +kernel, by decide +kernel⟩ rfl ⟨rfl, rfl⟩ ⟨Nat.le_of_ble_eq_true rfl, Nat.le_of_ble_eq_true rfl⟩ hl rfl (Nat.le_of_ble_eq_true rfl) hcs dL_law_504 (fun H locs hP hD hS => ?_)
  exact lv_icmp_eq (tgt := 847) Z.1 Z.2.1 dL_law_507 (by decide) (fun _ => K M2 N2 H locs hr hP hD hS) (fun h => absurd rfl h)
theorem law_arrives (Z : LX p s m c D cs) (hl : lv_has ls 4 (LV b i uX uN)) (hX : va_X b L xs s s.heap) (hbl : b < s.heap.size) (hbA : ¬ A b) (hA : ∀ q, s.heap.size ≤ q → A q) (hi : i + 4 ≤ L) (hL : L ≤ 256) (hcs : cells ≤ room_1.cells ∧ slots ≤ room_1.slots) (hrel : Rel M N) (hP : va_P D classes (xw S60 uN cs N ++ xw S56 uX cs M) H) (hD : va_D A (xw S60 uN cs N ++ xw S56 uX cs M)) (hS : va_S A s.heap H locs) (K : LK p l e s m args below meth c D cs A cells slots Q ls uX uN) : W p l e room_1 s m args below meth c H locs cells slots Q (F0 m 512 ls []) := by
  obtain ⟨R0, W0, K0, kn, L0, ln, T0, tl, hA0, hB0⟩ := id hrel
  obtain ⟨r, M2, N2, f1, f2, hr⟩ := p_arrives  hA0 hB0
  refine lv_aload_n Z.1 Z.2.1 dL_law_512 rfl (lv_at hl 2 rfl) ?_
  refine xl_X (M' := M2) (v := r) (As := []) (rest := []) (n := 0) Z (fun hd => kX5_arrives l D cs S56 uX hd S56_all  M (r, M2) f1) hP hD hS hA (xq_5 xb_665 xb_666 xb_667 xb_45 xb_317) ⟨rfl, by decide +kernel, by decide +kernel, by decide +kernel⟩ rfl ⟨rfl, rfl⟩ ⟨Nat.le_of_ble_eq_true rfl, Nat.le_of_ble_eq_true rfl⟩ hl rfl (Nat.le_of_ble_eq_true rfl) hcs dL_law_513 (fun H locs hP hD hS => ?_)
  refine lv_aload_n Z.1 Z.2.1 dL_law_516 rfl (lv_at hl 1 rfl) ?_
  refine xl_M (N' := N2) (v := r) (As := []) (rest := [.int r]) (n := 0) Z (fun hd => kX6_arrives l D cs S60 uN hd S60_all  N (r, N2) f2) hP hD hS hA (xq_5 xb_668 xb_669 xb_670 xb_394 xb_529) ⟨rfl, by decide +kernel, by decide +kernel, by decide +kernel⟩ rfl ⟨rfl, rfl⟩ ⟨Nat.le_of_ble_eq_true rfl, Nat.le_of_ble_eq_true rfl⟩ hl rfl (Nat.le_of_ble_eq_true rfl) hcs dL_law_517 (fun H locs hP hD hS => ?_)
  exact lv_icmp_eq (tgt := 847) Z.1 Z.2.1 dL_law_520 (by decide) (fun _ => K M2 N2 H locs hr hP hD hS) (fun h => absurd rfl h)
theorem law_would (Z : LX p s m c D cs) (hl : lv_has ls 4 (LV b i uX uN)) (hX : va_X b L xs s s.heap) (hbl : b < s.heap.size) (hbA : ¬ A b) (hA : ∀ q, s.heap.size ≤ q → A q) (hi : i + 4 ≤ L) (hL : L ≤ 256) (hcs : cells ≤ room_1.cells ∧ slots ≤ room_1.slots) (hrel : Rel M N) (hP : va_P D classes (xw S60 uN cs N ++ xw S56 uX cs M) H) (hD : va_D A (xw S60 uN cs N ++ xw S56 uX cs M)) (hS : va_S A s.heap H locs) (K : LK p l e s m args below meth c D cs A cells slots Q ls uX uN) : W p l e room_1 s m args below meth c H locs cells slots Q (F0 m 525 ls []) := by
  obtain ⟨R0, W0, K0, kn, L0, ln, T0, tl, hA0, hB0⟩ := id hrel
  obtain ⟨r, M2, N2, f1, f2, hr⟩ := p_would (xs (i + 1)) hA0 hB0
  refine lv_aload_n Z.1 Z.2.1 dL_law_525 rfl (lv_at hl 2 rfl) ?_
  refine xl_arg Z hl hX hbl hbA hS hi hL 1 1 (by decide) (by decide) dL_law_526 dL_law_527 dL_law_528 dL_law_529 dL_law_530 ?_
  refine xl_X (M' := M2) (v := r) (As := [.int (xs (i + 1))]) (rest := []) (n := 1) Z (fun hd => kX5_would l D cs S56 uX hd S56_all (xs (i + 1)) M (r, M2) f1) hP hD hS hA (xq_5 xb_671 xb_672 xb_673 xb_45 xb_318) ⟨rfl, by decide +kernel, by decide +kernel, by decide +kernel⟩ rfl ⟨rfl, rfl⟩ ⟨Nat.le_of_ble_eq_true rfl, Nat.le_of_ble_eq_true rfl⟩ hl rfl (Nat.le_of_ble_eq_true rfl) hcs dL_law_531 (fun H locs hP hD hS => ?_)
  refine lv_aload_n Z.1 Z.2.1 dL_law_534 rfl (lv_at hl 1 rfl) ?_
  refine xl_arg Z hl hX hbl hbA hS hi hL 1 1 (by decide) (by decide) dL_law_535 dL_law_536 dL_law_537 dL_law_538 dL_law_539 ?_
  refine xl_M (N' := N2) (v := r) (As := [.int (xs (i + 1))]) (rest := [.int r]) (n := 1) Z (fun hd => kX6_would l D cs S60 uN hd S60_all (xs (i + 1)) N (r, N2) f2) hP hD hS hA (xq_5 xb_674 xb_675 xb_676 xb_394 xb_530) ⟨rfl, by decide +kernel, by decide +kernel, by decide +kernel⟩ rfl ⟨rfl, rfl⟩ ⟨Nat.le_of_ble_eq_true rfl, Nat.le_of_ble_eq_true rfl⟩ hl rfl (Nat.le_of_ble_eq_true rfl) hcs dL_law_540 (fun H locs hP hD hS => ?_)
  exact lv_icmp_eq (tgt := 847) Z.1 Z.2.1 dL_law_543 (by decide) (fun _ => K M2 N2 H locs hr hP hD hS) (fun h => absurd rfl h)
end
