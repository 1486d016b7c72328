/-! THE LAW: its cases 17 to 20 -/
theorem dL_law_627 : decode cL_law 627 = .ok (.aload_n 1, 1) := by decide +kernel
theorem dL_law_628 : decode cL_law 628 = .ok (.aload_n 0, 1) := by decide +kernel
theorem dL_law_629 : decode cL_law 629 = .ok (.iload_n 3, 1) := by decide +kernel
theorem dL_law_630 : decode cL_law 630 = .ok (.iconst 1, 1) := by decide +kernel
theorem dL_law_631 : decode cL_law 631 = .ok (.iadd, 1) := by decide +kernel
theorem dL_law_632 : decode cL_law 632 = .ok (.iaload, 1) := by decide +kernel
theorem dL_law_633 : decode cL_law 633 = .ok (.aload_n 0, 1) := by decide +kernel
theorem dL_law_634 : decode cL_law 634 = .ok (.iload_n 3, 1) := by decide +kernel
theorem dL_law_635 : decode cL_law 635 = .ok (.iconst 2, 1) := by decide +kernel
theorem dL_law_636 : decode cL_law 636 = .ok (.iadd, 1) := by decide +kernel
theorem dL_law_637 : decode cL_law 637 = .ok (.iaload, 1) := by decide +kernel
theorem dL_law_638 : decode cL_law 638 = .ok (.invokevirtual 88, 3) := by decide +kernel
theorem dL_law_641 : decode cL_law 641 = .ok (.aload_n 2, 1) := by decide +kernel
theorem dL_law_642 : decode cL_law 642 = .ok (.aload_n 0, 1) := by decide +kernel
theorem dL_law_643 : decode cL_law 643 = .ok (.iload_n 3, 1) := by decide +kernel
theorem dL_law_644 : decode cL_law 644 = .ok (.iconst 1, 1) := by decide +kernel
theorem dL_law_645 : decode cL_law 645 = .ok (.iadd, 1) := by decide +kernel
theorem dL_law_646 : decode cL_law 646 = .ok (.iaload, 1) := by decide +kernel
theorem dL_law_647 : decode cL_law 647 = .ok (.aload_n 0, 1) := by decide +kernel
theorem dL_law_648 : decode cL_law 648 = .ok (.iload_n 3, 1) := by decide +kernel
theorem dL_law_649 : decode cL_law 649 = .ok (.iconst 2, 1) := by decide +kernel
theorem dL_law_650 : decode cL_law 650 = .ok (.iadd, 1) := by decide +kernel
theorem dL_law_651 : decode cL_law 651 = .ok (.iaload, 1) := by decide +kernel
theorem dL_law_652 : decode cL_law 652 = .ok (.invokevirtual 91, 3) := by decide +kernel
theorem dL_law_655 : decode cL_law 655 = .ok (.if_icmp .eq 192, 3) := by decide +kernel
theorem dL_law_660 : decode cL_law 660 = .ok (.aload_n 1, 1) := by decide +kernel
theorem dL_law_661 : decode cL_law 661 = .ok (.aload_n 0, 1) := by decide +kernel
theorem dL_law_662 : decode cL_law 662 = .ok (.iload_n 3, 1) := by decide +kernel
theorem dL_law_663 : decode cL_law 663 = .ok (.iconst 1, 1) := by decide +kernel
theorem dL_law_664 : decode cL_law 664 = .ok (.iadd, 1) := by decide +kernel
theorem dL_law_665 : decode cL_law 665 = .ok (.iaload, 1) := by decide +kernel
theorem dL_law_666 : decode cL_law 666 = .ok (.aload_n 0, 1) := by decide +kernel
theorem dL_law_667 : decode cL_law 667 = .ok (.iload_n 3, 1) := by decide +kernel
theorem dL_law_668 : decode cL_law 668 = .ok (.iconst 2, 1) := by decide +kernel
theorem dL_law_669 : decode cL_law 669 = .ok (.iadd, 1) := by decide +kernel
theorem dL_law_670 : decode cL_law 670 = .ok (.iaload, 1) := by decide +kernel
theorem dL_law_671 : decode cL_law 671 = .ok (.aload_n 0, 1) := by decide +kernel
theorem dL_law_672 : decode cL_law 672 = .ok (.iload_n 3, 1) := by decide +kernel
theorem dL_law_673 : decode cL_law 673 = .ok (.iconst 3, 1) := by decide +kernel
theorem dL_law_674 : decode cL_law 674 = .ok (.iadd, 1) := by decide +kernel
theorem dL_law_675 : decode cL_law 675 = .ok (.iaload, 1) := by decide +kernel
theorem dL_law_676 : decode cL_law 676 = .ok (.invokevirtual 92, 3) := by decide +kernel
theorem dL_law_679 : decode cL_law 679 = .ok (.aload_n 2, 1) := by decide +kernel
theorem dL_law_680 : decode cL_law 680 = .ok (.aload_n 0, 1) := by decide +kernel
theorem dL_law_681 : decode cL_law 681 = .ok (.iload_n 3, 1) := by decide +kernel
theorem dL_law_682 : decode cL_law 682 = .ok (.iconst 1, 1) := by decide +kernel
theorem dL_law_683 : decode cL_law 683 = .ok (.iadd, 1) := by decide +kernel
theorem dL_law_684 : decode cL_law 684 = .ok (.iaload, 1) := by decide +kernel
theorem dL_law_685 : decode cL_law 685 = .ok (.aload_n 0, 1) := by decide +kernel
theorem dL_law_686 : decode cL_law 686 = .ok (.iload_n 3, 1) := by decide +kernel
theorem dL_law_687 : decode cL_law 687 = .ok (.iconst 2, 1) := by decide +kernel
theorem dL_law_688 : decode cL_law 688 = .ok (.iadd, 1) := by decide +kernel
theorem dL_law_689 : decode cL_law 689 = .ok (.iaload, 1) := by decide +kernel
theorem dL_law_690 : decode cL_law 690 = .ok (.aload_n 0, 1) := by decide +kernel
theorem dL_law_691 : decode cL_law 691 = .ok (.iload_n 3, 1) := by decide +kernel
theorem dL_law_692 : decode cL_law 692 = .ok (.iconst 3, 1) := by decide +kernel
theorem dL_law_693 : decode cL_law 693 = .ok (.iadd, 1) := by decide +kernel
theorem dL_law_694 : decode cL_law 694 = .ok (.iaload, 1) := by decide +kernel
theorem dL_law_695 : decode cL_law 695 = .ok (.invokevirtual 95, 3) := by decide +kernel
theorem dL_law_698 : decode cL_law 698 = .ok (.if_icmp .eq 149, 3) := by decide +kernel
theorem dL_law_703 : decode cL_law 703 = .ok (.aload_n 1, 1) := by decide +kernel
theorem dL_law_704 : decode cL_law 704 = .ok (.invokevirtual 96, 3) := by decide +kernel
theorem dL_law_707 : decode cL_law 707 = .ok (.aload_n 2, 1) := by decide +kernel
theorem dL_law_708 : decode cL_law 708 = .ok (.invokevirtual 99, 3) := by decide +kernel
theorem dL_law_711 : decode cL_law 711 = .ok (.if_icmp .eq 136, 3) := by decide +kernel
theorem dL_law_716 : decode cL_law 716 = .ok (.aload_n 1, 1) := by decide +kernel
theorem dL_law_717 : decode cL_law 717 = .ok (.invokevirtual 100, 3) := by decide +kernel
theorem dL_law_720 : decode cL_law 720 = .ok (.aload_n 2, 1) := by decide +kernel
theorem dL_law_721 : decode cL_law 721 = .ok (.invokevirtual 103, 3) := by decide +kernel
theorem dL_law_724 : decode cL_law 724 = .ok (.if_icmp .eq 123, 3) := by decide +kernel
section
variable {p : Program} {l : Launch} {e : Env} {s : State} {m : MethodId} {args : Array Value} {below : List Frame} {meth : Method} {c : Code} {D : va_G} {cs : Nat → ClassId} {A : Nat → Prop} {H : Heap} {locs : List Loc} {cells slots : Nat} {Q : State → Prop} {ls : Array Slot} {b i L : Nat} {xs : Nat → Int32} {uX uN : Nat → Nat} {M N : xm}
theorem law_join (Z : LX p s m c D cs) (hl : lv_has ls 4 (LV b i uX uN)) (hX : va_X b L xs s s.heap) (hbl : b < s.heap.size) (hbA : ¬ A b) (hA : ∀ q, s.heap.size ≤ q → A q) (hi : i + 4 ≤ L) (hL : L ≤ 256) (hcs : cells ≤ room_1.cells ∧ slots ≤ room_1.slots) (hrel : Rel M N) (hP : va_P D classes (xw S60 uN cs N ++ xw S56 uX cs M) H) (hD : va_D A (xw S60 uN cs N ++ xw S56 uX cs M)) (hS : va_S A s.heap H locs) (K : LK p l e s m args below meth c D cs A cells slots Q ls uX uN) : W p l e room_1 s m args below meth c H locs cells slots Q (F0 m 627 ls []) := by
  obtain ⟨R0, W0, K0, kn, L0, ln, T0, tl, hA0, hB0⟩ := id hrel
  obtain ⟨r, M2, N2, f1, f2, hr⟩ := p_join (xs (i + 1)) (xs (i + 2)) hA0 hB0
  obtain ⟨f1, rfl⟩ := ro_inv f1
  refine lv_aload_n Z.1 Z.2.1 dL_law_627 rfl (lv_at hl 2 rfl) ?_
  refine xl_arg Z hl hX hbl hbA hS hi hL 1 1 (by decide) (by decide) dL_law_628 dL_law_629 dL_law_630 dL_law_631 dL_law_632 ?_
  refine xl_arg Z hl hX hbl hbA hS hi hL 2 2 (by decide) (by decide) dL_law_633 dL_law_634 dL_law_635 dL_law_636 dL_law_637 ?_
  refine xl_X (M' := M2) (v := r) (As := [.int (xs (i + 1)), .int (xs (i + 2))]) (rest := []) (n := 2) Z (fun hd => kX5_join l D cs S56 uX hd S56_all (xs (i + 1)) (xs (i + 2)) M2 r f1) hP hD hS hA (xq_5 xb_695 xb_696 xb_697 xb_45 xb_346) ⟨rfl, by decide +kernel, by decide +kernel, by decide +kernel⟩ rfl ⟨rfl, rfl⟩ ⟨Nat.le_of_ble_eq_true rfl, Nat.le_of_ble_eq_true rfl⟩ hl rfl (Nat.le_of_ble_eq_true rfl) hcs dL_law_638 (fun H locs hP hD hS => ?_)
  refine lv_aload_n Z.1 Z.2.1 dL_law_641 rfl (lv_at hl 1 rfl) ?_
  refine xl_arg Z hl hX hbl hbA hS hi hL 1 1 (by decide) (by decide) dL_law_642 dL_law_643 dL_law_644 dL_law_645 dL_law_646 ?_
  refine xl_arg Z hl hX hbl hbA hS hi hL 2 2 (by decide) (by decide) dL_law_647 dL_law_648 dL_law_649 dL_law_650 dL_law_651 ?_
  refine xl_M (N' := N2) (v := r) (As := [.int (xs (i + 1)), .int (xs (i + 2))]) (rest := [.int r]) (n := 2) Z (fun hd => kX6_join l D cs S60 uN hd S60_all (xs (i + 1)) (xs (i + 2)) N (r, N2) f2) hP hD hS hA (xq_5 xb_698 xb_699 xb_700 xb_394 xb_556) ⟨rfl, by decide +kernel, by decide +kernel, by decide +kernel⟩ rfl ⟨rfl, rfl⟩ ⟨Nat.le_of_ble_eq_true rfl, Nat.le_of_ble_eq_true rfl⟩ hl rfl (Nat.le_of_ble_eq_true rfl) hcs dL_law_652 (fun H locs hP hD hS => ?_)
  exact lv_icmp_eq (tgt := 847) Z.1 Z.2.1 dL_law_655 (by decide) (fun _ => K M2 N2 H locs hr hP hD hS) (fun h => absurd rfl h)
theorem law_diary (Z : LX p s m c D cs) (hl : lv_has ls 4 (LV b i uX uN)) (hX : va_X b L xs s s.heap) (hbl : b < s.heap.size) (hbA : ¬ A b) (hA : ∀ q, s.heap.size ≤ q → A q) (hi : i + 4 ≤ L) (hL : L ≤ 256) (hcs : cells ≤ room_1.cells ∧ slots ≤ room_1.slots) (hrel : Rel M N) (hP : va_P D classes (xw S60 uN cs N ++ xw S56 uX cs M) H) (hD : va_D A (xw S60 uN cs N ++ xw S56 uX cs M)) (hS : va_S A s.heap H locs) (K : LK p l e s m args below meth c D cs A cells slots Q ls uX uN) : W p l e room_1 s m args below meth c H locs cells slots Q (F0 m 660 ls []) := by
  obtain ⟨R0, W0, K0, kn, L0, ln, T0, tl, hA0, hB0⟩ := id hrel
  obtain ⟨r, M2, N2, f1, f2, hr⟩ := p_diary (xs (i + 1)) (xs (i + 2)) (xs (i + 3)) hA0 hB0
  refine lv_aload_n Z.1 Z.2.1 dL_law_660 rfl (lv_at hl 2 rfl) ?_
  refine xl_arg Z hl hX hbl hbA hS hi hL 1 1 (by decide) (by decide) dL_law_661 dL_law_662 dL_law_663 dL_law_664 dL_law_665 ?_
  refine xl_arg Z hl hX hbl hbA hS hi hL 2 2 (by decide) (by decide) dL_law_666 dL_law_667 dL_law_668 dL_law_669 dL_law_670 ?_
  refine xl_arg Z hl hX hbl hbA hS hi hL 3 3 (by decide) (by decide) dL_law_671 dL_law_672 dL_law_673 dL_law_674 dL_law_675 ?_
  refine xl_X (M' := M2) (v := r) (As := [.int (xs (i + 1)), .int (xs (i + 2)), .int (xs (i + 3))]) (rest := []) (n := 3) Z (fun hd => kX5_diary l D cs S56 uX hd S56_all (xs (i + 1)) (xs (i + 2)) (xs (i + 3)) M (r, M2) f1) hP hD hS hA (xq_5 xb_701 xb_702 xb_703 xb_45 xb_347) ⟨rfl, by decide +kernel, by decide +kernel, by decide +kernel⟩ rfl ⟨rfl, rfl⟩ ⟨Nat.le_of_ble_eq_true rfl, Nat.le_of_ble_eq_true rfl⟩ hl rfl (Nat.le_of_ble_eq_true rfl) hcs dL_law_676 (fun H locs hP hD hS => ?_)
  refine lv_aload_n Z.1 Z.2.1 dL_law_679 rfl (lv_at hl 1 rfl) ?_
  refine xl_arg Z hl hX hbl hbA hS hi hL 1 1 (by decide) (by decide) dL_law_680 dL_law_681 dL_law_682 dL_law_683 dL_law_684 ?_
  refine xl_arg Z hl hX hbl hbA hS hi hL 2 2 (by decide) (by decide) dL_law_685 dL_law_686 dL_law_687 dL_law_688 dL_law_689 ?_
  refine xl_arg Z hl hX hbl hbA hS hi hL 3 3 (by decide) (by decide) dL_law_690 dL_law_691 dL_law_692 dL_law_693 dL_law_694 ?_
  refine xl_M (N' := N2) (v := r) (As := [.int (xs (i + 1)), .int (xs (i + 2)), .int (xs (i + 3))]) (rest := [.int r]) (n := 3) Z (fun hd => kX6_diary l D cs S60 uN hd S60_all (xs (i + 1)) (xs (i + 2)) (xs (i + 3)) N (r, N2) f2) hP hD hS hA (xq_5 xb_704 xb_705 xb_706 xb_394 xb_557) ⟨rfl, by decide +kernel, by decide +kernel, by decide +kernel⟩ rfl ⟨rfl, rfl⟩ ⟨Nat.le_of_ble_eq_true rfl, Nat.le_of_ble_eq_true rfl⟩ hl rfl (Nat.le_of_ble_eq_true rfl) hcs dL_law_695 (fun H locs hP hD hS => ?_)
  exact lv_icmp_eq (tgt := 847) Z.1 Z.2.1 dL_law_698 (by decide) (fun _ => K M2 N2 H locs hr hP hD hS) (fun h => absurd rfl h)
theorem law_noDiary (Z : LX p s m c D cs) (hl : lv_has ls 4 (LV b i uX uN)) (hX : va_X b L xs s s.heap) (hbl : b < s.heap.size) (hbA : ¬ A b) (hA : ∀ q, s.heap.size ≤ q → A q) (hi : i + 4 ≤ L) (hL : L ≤ 256) (hcs : cells ≤ room_1.cells ∧ slots ≤ room_1.slots) (hrel : Rel M N) (hP : va_P D classes (xw S60 uN cs N ++ xw S56 uX cs M) H) (hD : va_D A (xw S60 uN cs N ++ xw S56 uX cs M)) (hS : va_S A s.heap H locs) (K : LK p l e s m args below meth c D cs A cells slots Q ls uX uN) : W p l e room_1 s m args below meth c H locs cells slots Q (F0 m 703 ls []) := by
  obtain ⟨R0, W0, K0, kn, L0, ln, T0, tl, hA0, hB0⟩ := id hrel
  obtain ⟨r, M2, N2, f1, f2, hr⟩ := p_noDiary  hA0 hB0
  refine lv_aload_n Z.1 Z.2.1 dL_law_703 rfl (lv_at hl 2 rfl) ?_
  refine xl_X (M' := M2) (v := r) (As := []) (rest := []) (n := 0) Z (fun hd => kX5_noDiary l D cs S56 uX hd S56_all  M (r, M2) f1) hP hD hS hA (xq_5 xb_707 xb_708 xb_709 xb_45 xb_351) ⟨rfl, by decide +kernel, by decide +kernel, by decide +kernel⟩ rfl ⟨rfl, rfl⟩ ⟨Nat.le_of_ble_eq_true rfl, Nat.le_of_ble_eq_true rfl⟩ hl rfl (Nat.le_of_ble_eq_true rfl) hcs dL_law_704 (fun H locs hP hD hS => ?_)
  refine lv_aload_n Z.1 Z.2.1 dL_law_707 rfl (lv_at hl 1 rfl) ?_
  refine xl_M (N' := N2) (v := r) (As := []) (rest := [.int r]) (n := 0) Z (fun hd => kX6_noDiary l D cs S60 uN hd S60_all  N (r, N2) f2) hP hD hS hA (xq_5 xb_710 xb_711 xb_712 xb_394 xb_558) ⟨rfl, by decide +kernel, by decide +kernel, by decide +kernel⟩ rfl ⟨rfl, rfl⟩ ⟨Nat.le_of_ble_eq_true rfl, Nat.le_of_ble_eq_true rfl⟩ hl rfl (Nat.le_of_ble_eq_true rfl) hcs dL_law_708 (fun H locs hP hD hS => ?_)
  exact lv_icmp_eq (tgt := 847) Z.1 Z.2.1 dL_law_711 (by decide) (fun _ => K M2 N2 H locs hr hP hD hS) (fun h => absurd rfl h)
theorem law_wrong (Z : LX p s m c D cs) (hl : lv_has ls 4 (LV b i uX uN)) (hX : va_X b L xs s s.heap) (hbl : b < s.heap.size) (hbA : ¬ A b) (hA : ∀ q, s.heap.size ≤ q → A q) (hi : i + 4 ≤ L) (hL : L ≤ 256) (hcs : cells ≤ room_1.cells ∧ slots ≤ room_1.slots) (hrel : Rel M N) (hP : va_P D classes (xw S60 uN cs N ++ xw S56 uX cs M) H) (hD : va_D A (xw S60 uN cs N ++ xw S56 uX cs M)) (hS : va_S A s.heap H locs) (K : LK p l e s m args below meth c D cs A cells slots Q ls uX uN) : W p l e room_1 s m args below meth c H locs cells slots Q (F0 m 716 ls []) := by
  obtain ⟨R0, W0, K0, kn, L0, ln, T0, tl, hA0, hB0⟩ := id hrel
  obtain ⟨r, M2, N2, f1, f2, hr⟩ := p_wrong  hA0 hB0
  refine lv_aload_n Z.1 Z.2.1 dL_law_716 rfl (lv_at hl 2 rfl) ?_
  refine xl_X (M' := M2) (v := r) (As := []) (rest := []) (n := 0) Z (fun hd => kX5_wrong l D cs S56 uX hd S56_all  M (r, M2) f1) hP hD hS hA (xq_5 xb_713 xb_714 xb_715 xb_45 xb_355) ⟨rfl, by decide +kernel, by decide +kernel, by decide +kernel⟩ rfl ⟨rfl, rfl⟩ ⟨Nat.le_of_ble_eq_true rfl, Nat.le_of_ble_eq_true rfl⟩ hl rfl (Nat.le_of_ble_eq_true rfl) hcs dL_law_717 (fun H locs hP hD hS => ?_)
  refine lv_aload_n Z.1 Z.2.1 dL_law_720 rfl (lv_at hl 1 rfl) ?_
  refine xl_M (N' := N2) (v := r) (As := []) (rest := [.int r]) (n := 0) Z (fun hd => kX6_wrong l D cs S60 uN hd S60_all  N (r, N2) f2) hP hD hS hA (xq_5 xb_716 xb_717 xb_718 xb_394 xb_563) ⟨rfl, by decide +kernel, by decide +kernel, by decide +kernel⟩ rfl ⟨rfl, rfl⟩ ⟨Nat.le_of_ble_eq_true rfl, Nat.le_of_ble_eq_true rfl⟩ hl rfl (Nat.le_of_ble_eq_true rfl) hcs dL_law_721 (fun H locs hP hD hS => ?_)
  exact lv_icmp_eq (tgt := 847) Z.1 Z.2.1 dL_law_724 (by decide) (fun _ => K M2 N2 H locs hr hP hD hS) (fun h => absurd rfl h)
end
