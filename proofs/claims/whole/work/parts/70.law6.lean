/-! THE LAW: its cases 21 to 23 -/
theorem dL_law_729 : decode cL_law 729 = .ok (.aload_n 1, 1) := by decide +kernel
theorem dL_law_730 : decode cL_law 730 = .ok (.invokevirtual 104, 3) := by decide +kernel
theorem dL_law_733 : decode cL_law 733 = .ok (.aload_n 2, 1) := by decide +kernel
theorem dL_law_734 : decode cL_law 734 = .ok (.invokevirtual 107, 3) := by decide +kernel
theorem dL_law_737 : decode cL_law 737 = .ok (.if_icmp .eq 110, 3) := by decide +kernel
theorem dL_law_742 : decode cL_law 742 = .ok (.aload_n 1, 1) := by decide +kernel
theorem dL_law_743 : decode cL_law 743 = .ok (.aload_n 0, 1) := by decide +kernel
theorem dL_law_744 : decode cL_law 744 = .ok (.iload_n 3, 1) := by decide +kernel
theorem dL_law_745 : decode cL_law 745 = .ok (.iconst 1, 1) := by decide +kernel
theorem dL_law_746 : decode cL_law 746 = .ok (.iadd, 1) := by decide +kernel
theorem dL_law_747 : decode cL_law 747 = .ok (.iaload, 1) := by decide +kernel
theorem dL_law_748 : decode cL_law 748 = .ok (.invokevirtual 108, 3) := by decide +kernel
theorem dL_law_751 : decode cL_law 751 = .ok (.aload_n 2, 1) := by decide +kernel
theorem dL_law_752 : decode cL_law 752 = .ok (.aload_n 0, 1) := by decide +kernel
theorem dL_law_753 : decode cL_law 753 = .ok (.iload_n 3, 1) := by decide +kernel
theorem dL_law_754 : decode cL_law 754 = .ok (.iconst 1, 1) := by decide +kernel
theorem dL_law_755 : decode cL_law 755 = .ok (.iadd, 1) := by decide +kernel
theorem dL_law_756 : decode cL_law 756 = .ok (.iaload, 1) := by decide +kernel
theorem dL_law_757 : decode cL_law 757 = .ok (.invokevirtual 111, 3) := by decide +kernel
theorem dL_law_760 : decode cL_law 760 = .ok (.if_icmp .eq 87, 3) := by decide +kernel
theorem dL_law_765 : decode cL_law 765 = .ok (.aload_n 1, 1) := by decide +kernel
theorem dL_law_766 : decode cL_law 766 = .ok (.aload_n 0, 1) := by decide +kernel
theorem dL_law_767 : decode cL_law 767 = .ok (.iload_n 3, 1) := by decide +kernel
theorem dL_law_768 : decode cL_law 768 = .ok (.iconst 1, 1) := by decide +kernel
theorem dL_law_769 : decode cL_law 769 = .ok (.iadd, 1) := by decide +kernel
theorem dL_law_770 : decode cL_law 770 = .ok (.iaload, 1) := by decide +kernel
theorem dL_law_771 : decode cL_law 771 = .ok (.aload_n 0, 1) := by decide +kernel
theorem dL_law_772 : decode cL_law 772 = .ok (.iload_n 3, 1) := by decide +kernel
theorem dL_law_773 : decode cL_law 773 = .ok (.iconst 2, 1) := by decide +kernel
theorem dL_law_774 : decode cL_law 774 = .ok (.iadd, 1) := by decide +kernel
theorem dL_law_775 : decode cL_law 775 = .ok (.iaload, 1) := by decide +kernel
theorem dL_law_776 : decode cL_law 776 = .ok (.invokevirtual 112, 3) := by decide +kernel
theorem dL_law_779 : decode cL_law 779 = .ok (.aload_n 2, 1) := by decide +kernel
theorem dL_law_780 : decode cL_law 780 = .ok (.aload_n 0, 1) := by decide +kernel
theorem dL_law_781 : decode cL_law 781 = .ok (.iload_n 3, 1) := by decide +kernel
theorem dL_law_782 : decode cL_law 782 = .ok (.iconst 1, 1) := by decide +kernel
theorem dL_law_783 : decode cL_law 783 = .ok (.iadd, 1) := by decide +kernel
theorem dL_law_784 : decode cL_law 784 = .ok (.iaload, 1) := by decide +kernel
theorem dL_law_785 : decode cL_law 785 = .ok (.aload_n 0, 1) := by decide +kernel
theorem dL_law_786 : decode cL_law 786 = .ok (.iload_n 3, 1) := by decide +kernel
theorem dL_law_787 : decode cL_law 787 = .ok (.iconst 2, 1) := by decide +kernel
theorem dL_law_788 : decode cL_law 788 = .ok (.iadd, 1) := by decide +kernel
theorem dL_law_789 : decode cL_law 789 = .ok (.iaload, 1) := by decide +kernel
theorem dL_law_790 : decode cL_law 790 = .ok (.invokevirtual 115, 3) := by decide +kernel
theorem dL_law_793 : decode cL_law 793 = .ok (.if_icmp .eq 54, 3) := by decide +kernel
section
variable {p : Program} {l : Launch} {e : Env} {s : State} {m : MethodId} {args : Array Value} {below : List Frame} {meth : Method} {c : Code} {D : va_G} {cs : Nat → ClassId} {A : Nat → Prop} {H : Heap} {locs : List Loc} {cells slots : Nat} {Q : State → Prop} {ls : Array Slot} {b i L : Nat} {xs : Nat → Int32} {uX uN : Nat → Nat} {M N : xm}
theorem law_late (Z : LX p s m c D cs) (hl : lv_has ls 4 (LV b i uX uN)) (hX : va_X b L xs s s.heap) (hbl : b < s.heap.size) (hbA : ¬ A b) (hA : ∀ q, s.heap.size ≤ q → A q) (hi : i + 4 ≤ L) (hL : L ≤ 256) (hcs : cells ≤ room_1.cells ∧ slots ≤ room_1.slots) (hrel : Rel M N) (hP : va_P D classes (xw S60 uN cs N ++ xw S56 uX cs M) H) (hD : va_D A (xw S60 uN cs N ++ xw S56 uX cs M)) (hS : va_S A s.heap H locs) (K : LK p l e s m args below meth c D cs A cells slots Q ls uX uN) : W p l e room_1 s m args below meth c H locs cells slots Q (F0 m 729 ls []) := by
  obtain ⟨R0, W0, K0, kn, L0, ln, T0, tl, hA0, hB0⟩ := id hrel
  obtain ⟨r, M2, N2, f1, f2, hr⟩ := p_late  hA0 hB0
  refine lv_aload_n Z.1 Z.2.1 dL_law_729 rfl (lv_at hl 2 rfl) ?_
  refine xl_X (M' := M2) (v := r) (As := []) (rest := []) (n := 0) Z (fun hd => kX5_late l D cs S56 uX hd S56_all  M (r, M2) f1) hP hD hS hA (xq_5 xb_719 xb_720 xb_721 xb_45 xb_359) ⟨rfl, by decide +kernel, by decide +kernel, by decide +kernel⟩ rfl ⟨rfl, rfl⟩ ⟨Nat.le_of_ble_eq_true rfl, Nat.le_of_ble_eq_true rfl⟩ hl rfl (Nat.le_of_ble_eq_true rfl) hcs dL_law_730 (fun H locs hP hD hS => ?_)
  refine lv_aload_n Z.1 Z.2.1 dL_law_733 rfl (lv_at hl 1 rfl) ?_
  refine xl_M (N' := N2) (v := r) (As := []) (rest := [.int r]) (n := 0) Z (fun hd => kX6_late l D cs S60 uN hd S60_all  N (r, N2) f2) hP hD hS hA (xq_5 xb_722 xb_723 xb_724 xb_394 xb_568) ⟨rfl, by decide +kernel, by decide +kernel, by decide +kernel⟩ rfl ⟨rfl, rfl⟩ ⟨Nat.le_of_ble_eq_true rfl, Nat.le_of_ble_eq_true rfl⟩ hl rfl (Nat.le_of_ble_eq_true rfl) hcs dL_law_734 (fun H locs hP hD hS => ?_)
  exact lv_icmp_eq (tgt := 847) Z.1 Z.2.1 dL_law_737 (by decide) (fun _ => K M2 N2 H locs hr hP hD hS) (fun h => absurd rfl h)
theorem law_year (Z : LX p s m c D cs) (hl : lv_has ls 4 (LV b i uX uN)) (hX : va_X b L xs s s.heap) (hbl : b < s.heap.size) (hbA : ¬ A b) (hA : ∀ q, s.heap.size ≤ q → A q) (hi : i + 4 ≤ L) (hL : L ≤ 256) (hcs : cells ≤ room_1.cells ∧ slots ≤ room_1.slots) (hrel : Rel M N) (hP : va_P D classes (xw S60 uN cs N ++ xw S56 uX cs M) H) (hD : va_D A (xw S60 uN cs N ++ xw S56 uX cs M)) (hS : va_S A s.heap H locs) (K : LK p l e s m args below meth c D cs A cells slots Q ls uX uN) : W p l e room_1 s m args below meth c H locs cells slots Q (F0 m 742 ls []) := by
  obtain ⟨R0, W0, K0, kn, L0, ln, T0, tl, hA0, hB0⟩ := id hrel
  obtain ⟨r, M2, N2, f1, f2, hr⟩ := p_year (xs (i + 1)) hA0 hB0
  refine lv_aload_n Z.1 Z.2.1 dL_law_742 rfl (lv_at hl 2 rfl) ?_
  refine xl_arg Z hl hX hbl hbA hS hi hL 1 1 (by decide) (by decide) dL_law_743 dL_law_744 dL_law_745 dL_law_746 dL_law_747 ?_
  refine xl_X (M' := M2) (v := r) (As := [.int (xs (i + 1))]) (rest := []) (n := 1) Z (fun hd => kX5_year l D cs S56 uX hd S56_all (xs (i + 1)) M (r, M2) f1) hP hD hS hA (xq_5 xb_725 xb_726 xb_727 xb_45 xb_375) ⟨rfl, by decide +kernel, by decide +kernel, by decide +kernel⟩ rfl ⟨rfl, rfl⟩ ⟨Nat.le_of_ble_eq_true rfl, Nat.le_of_ble_eq_true rfl⟩ hl rfl (Nat.le_of_ble_eq_true rfl) hcs dL_law_748 (fun H locs hP hD hS => ?_)
  refine lv_aload_n Z.1 Z.2.1 dL_law_751 rfl (lv_at hl 1 rfl) ?_
  refine xl_arg Z hl hX hbl hbA hS hi hL 1 1 (by decide) (by decide) dL_law_752 dL_law_753 dL_law_754 dL_law_755 dL_law_756 ?_
  refine xl_M (N' := N2) (v := r) (As := [.int (xs (i + 1))]) (rest := [.int r]) (n := 1) Z (fun hd => kX6_year l D cs S60 uN hd S60_all (xs (i + 1)) N (r, N2) f2) hP hD hS hA (xq_5 xb_728 xb_729 xb_730 xb_394 xb_581) ⟨rfl, by decide +kernel, by decide +kernel, by decide +kernel⟩ rfl ⟨rfl, rfl⟩ ⟨Nat.le_of_ble_eq_true rfl, Nat.le_of_ble_eq_true rfl⟩ hl rfl (Nat.le_of_ble_eq_true rfl) hcs dL_law_757 (fun H locs hP hD hS => ?_)
  exact lv_icmp_eq (tgt := 847) Z.1 Z.2.1 dL_law_760 (by decide) (fun _ => K M2 N2 H locs hr hP hD hS) (fun h => absurd rfl h)
theorem law_ten (Z : LX p s m c D cs) (hl : lv_has ls 4 (LV b i uX uN)) (hX : va_X b L xs s s.heap) (hbl : b < s.heap.size) (hbA : ¬ A b) (hA : ∀ q, s.heap.size ≤ q → A q) (hi : i + 4 ≤ L) (hL : L ≤ 256) (hcs : cells ≤ room_1.cells ∧ slots ≤ room_1.slots) (hrel : Rel M N) (hP : va_P D classes (xw S60 uN cs N ++ xw S56 uX cs M) H) (hD : va_D A (xw S60 uN cs N ++ xw S56 uX cs M)) (hS : va_S A s.heap H locs) (K : LK p l e s m args below meth c D cs A cells slots Q ls uX uN) : W p l e room_1 s m args below meth c H locs cells slots Q (F0 m 765 ls []) := by
  obtain ⟨R0, W0, K0, kn, L0, ln, T0, tl, hA0, hB0⟩ := id hrel
  obtain ⟨r, M2, N2, f1, f2, hr⟩ := p_ten (xs (i + 1)) (xs (i + 2)) hA0 hB0
  refine lv_aload_n Z.1 Z.2.1 dL_law_765 rfl (lv_at hl 2 rfl) ?_
  refine xl_arg Z hl hX hbl hbA hS hi hL 1 1 (by decide) (by decide) dL_law_766 dL_law_767 dL_law_768 dL_law_769 dL_law_770 ?_
  refine xl_arg Z hl hX hbl hbA hS hi hL 2 2 (by decide) (by decide) dL_law_771 dL_law_772 dL_law_773 dL_law_774 dL_law_775 ?_
  refine xl_X (M' := M2) (v := r) (As := [.int (xs (i + 1)), .int (xs (i + 2))]) (rest := []) (n := 2) Z (fun hd => kX5_ten l D cs S56 uX hd S56_all (xs (i + 1)) (xs (i + 2)) M (r, M2) f1) hP hD hS hA (xq_5 xb_731 xb_732 xb_733 xb_45 xb_376) ⟨rfl, by decide +kernel, by decide +kernel, by decide +kernel⟩ rfl ⟨rfl, rfl⟩ ⟨Nat.le_of_ble_eq_true rfl, Nat.le_of_ble_eq_true rfl⟩ hl rfl (Nat.le_of_ble_eq_true rfl) hcs dL_law_776 (fun H locs hP hD hS => ?_)
  refine lv_aload_n Z.1 Z.2.1 dL_law_779 rfl (lv_at hl 1 rfl) ?_
  refine xl_arg Z hl hX hbl hbA hS hi hL 1 1 (by decide) (by decide) dL_law_780 dL_law_781 dL_law_782 dL_law_783 dL_law_784 ?_
  refine xl_arg Z hl hX hbl hbA hS hi hL 2 2 (by decide) (by decide) dL_law_785 dL_law_786 dL_law_787 dL_law_788 dL_law_789 ?_
  refine xl_M (N' := N2) (v := r) (As := [.int (xs (i + 1)), .int (xs (i + 2))]) (rest := [.int r]) (n := 2) Z (fun hd => kX6_ten l D cs S60 uN hd S60_all (xs (i + 1)) (xs (i + 2)) N (r, N2) f2) hP hD hS hA (xq_5 xb_734 xb_735 xb_736 xb_394 xb_582) ⟨rfl, by decide +kernel, by decide +kernel, by decide +kernel⟩ rfl ⟨rfl, rfl⟩ ⟨Nat.le_of_ble_eq_true rfl, Nat.le_of_ble_eq_true rfl⟩ hl rfl (Nat.le_of_ble_eq_true rfl) hcs dL_law_790 (fun H locs hP hD hS => ?_)
  exact lv_icmp_eq (tgt := 847) Z.1 Z.2.1 dL_law_793 (by decide) (fun _ => K M2 N2 H locs hr hP hD hS) (fun h => absurd rfl h)
end
