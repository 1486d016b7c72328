/-! THE LAW: its cases 24 to 26 -/
theorem dL_law_798 : decode cL_law 798 = .ok (.aload_n 1, 1) := by decide +kernel
theorem dL_law_799 : decode cL_law 799 = .ok (.invokevirtual 116, 3) := by decide +kernel
theorem dL_law_802 : decode cL_law 802 = .ok (.aload_n 2, 1) := by decide +kernel
theorem dL_law_803 : decode cL_law 803 = .ok (.invokevirtual 119, 3) := by decide +kernel
theorem dL_law_806 : decode cL_law 806 = .ok (.if_icmp .eq 41, 3) := by decide +kernel
theorem dL_law_811 : decode cL_law 811 = .ok (.aload_n 1, 1) := by decide +kernel
theorem dL_law_812 : decode cL_law 812 = .ok (.invokevirtual 120, 3) := by decide +kernel
theorem dL_law_815 : decode cL_law 815 = .ok (.aload_n 2, 1) := by decide +kernel
theorem dL_law_816 : decode cL_law 816 = .ok (.invokevirtual 123, 3) := by decide +kernel
theorem dL_law_819 : decode cL_law 819 = .ok (.if_icmp .eq 28, 3) := by decide +kernel
theorem dL_law_824 : decode cL_law 824 = .ok (.aload_n 1, 1) := by decide +kernel
theorem dL_law_825 : decode cL_law 825 = .ok (.aload_n 0, 1) := by decide +kernel
theorem dL_law_826 : decode cL_law 826 = .ok (.iload_n 3, 1) := by decide +kernel
theorem dL_law_827 : decode cL_law 827 = .ok (.iconst 1, 1) := by decide +kernel
theorem dL_law_828 : decode cL_law 828 = .ok (.iadd, 1) := by decide +kernel
theorem dL_law_829 : decode cL_law 829 = .ok (.iaload, 1) := by decide +kernel
theorem dL_law_830 : decode cL_law 830 = .ok (.invokevirtual 124, 3) := by decide +kernel
theorem dL_law_833 : decode cL_law 833 = .ok (.aload_n 2, 1) := by decide +kernel
theorem dL_law_834 : decode cL_law 834 = .ok (.aload_n 0, 1) := by decide +kernel
theorem dL_law_835 : decode cL_law 835 = .ok (.iload_n 3, 1) := by decide +kernel
theorem dL_law_836 : decode cL_law 836 = .ok (.iconst 1, 1) := by decide +kernel
theorem dL_law_837 : decode cL_law 837 = .ok (.iadd, 1) := by decide +kernel
theorem dL_law_838 : decode cL_law 838 = .ok (.iaload, 1) := by decide +kernel
theorem dL_law_839 : decode cL_law 839 = .ok (.invokevirtual 127, 3) := by decide +kernel
theorem dL_law_842 : decode cL_law 842 = .ok (.if_icmp .eq 5, 3) := by decide +kernel
section
variable {p : Program} {l : Launch} {e : Env} {s : State} {m : MethodId} {args : Array Value} {below : List Frame} {meth : Method} {c : Code} {D : va_G} {cs : Nat → ClassId} {A : Nat → Prop} {H : Heap} {locs : List Loc} {cells slots : Nat} {Q : State → Prop} {ls : Array Slot} {b i L : Nat} {xs : Nat → Int32} {uX uN : Nat → Nat} {M N : xm}
theorem law_keep (Z : LX p s m c D cs) (hl : lv_has ls 4 (LV b i uX uN)) (hX : va_X b L xs s s.heap) (hbl : b < s.heap.size) (hbA : ¬ A b) (hA : ∀ q, s.heap.size ≤ q → A q) (hi : i + 4 ≤ L) (hL : L ≤ 256) (hcs : cells ≤ room_1.cells ∧ slots ≤ room_1.slots) (hrel : Rel M N) (hP : va_P D classes (xw S60 uN cs N ++ xw S56 uX cs M) H) (hD : va_D A (xw S60 uN cs N ++ xw S56 uX cs M)) (hS : va_S A s.heap H locs) (K : LK p l e s m args below meth c D cs A cells slots Q ls uX uN) : W p l e room_1 s m args below meth c H locs cells slots Q (F0 m 798 ls []) := by
  obtain ⟨R0, W0, K0, kn, L0, ln, T0, tl, hA0, hB0⟩ := id hrel
  obtain ⟨r, M2, N2, f1, f2, hr⟩ := p_keep  hA0 hB0
  refine lv_aload_n Z.1 Z.2.1 dL_law_798 rfl (lv_at hl 2 rfl) ?_
  refine xl_X (M' := M2) (v := r) (As := []) (rest := []) (n := 0) Z (fun hd => kX5_keep l D cs S56 uX hd S56_all  M (r, M2) f1) hP hD hS hA (xq_5 xb_737 xb_738 xb_739 xb_45 xb_377) ⟨rfl, by decide +kernel, by decide +kernel, by decide +kernel⟩ rfl ⟨rfl, rfl⟩ ⟨Nat.le_of_ble_eq_true rfl, Nat.le_of_ble_eq_true rfl⟩ hl rfl (Nat.le_of_ble_eq_true rfl) hcs dL_law_799 (fun H locs hP hD hS => ?_)
  refine lv_aload_n Z.1 Z.2.1 dL_law_802 rfl (lv_at hl 1 rfl) ?_
  refine xl_M (N' := N2) (v := r) (As := []) (rest := [.int r]) (n := 0) Z (fun hd => kX6_keep l D cs S60 uN hd S60_all  N (r, N2) f2) hP hD hS hA (xq_5 xb_740 xb_741 xb_742 xb_394 xb_583) ⟨rfl, by decide +kernel, by decide +kernel, by decide +kernel⟩ rfl ⟨rfl, rfl⟩ ⟨Nat.le_of_ble_eq_true rfl, Nat.le_of_ble_eq_true rfl⟩ hl rfl (Nat.le_of_ble_eq_true rfl) hcs dL_law_803 (fun H locs hP hD hS => ?_)
  exact lv_icmp_eq (tgt := 847) Z.1 Z.2.1 dL_law_806 (by decide) (fun _ => K M2 N2 H locs hr hP hD hS) (fun h => absurd rfl h)
theorem law_again (Z : LX p s m c D cs) (hl : lv_has ls 4 (LV b i uX uN)) (hX : va_X b L xs s s.heap) (hbl : b < s.heap.size) (hbA : ¬ A b) (hA : ∀ q, s.heap.size ≤ q → A q) (hi : i + 4 ≤ L) (hL : L ≤ 256) (hcs : cells ≤ room_1.cells ∧ slots ≤ room_1.slots) (hrel : Rel M N) (hP : va_P D classes (xw S60 uN cs N ++ xw S56 uX cs M) H) (hD : va_D A (xw S60 uN cs N ++ xw S56 uX cs M)) (hS : va_S A s.heap H locs) (K : LK p l e s m args below meth c D cs A cells slots Q ls uX uN) : W p l e room_1 s m args below meth c H locs cells slots Q (F0 m 811 ls []) := by
  obtain ⟨R0, W0, K0, kn, L0, ln, T0, tl, hA0, hB0⟩ := id hrel
  obtain ⟨r, M2, N2, f1, f2, hr⟩ := p_again  hA0 hB0
  refine lv_aload_n Z.1 Z.2.1 dL_law_811 rfl (lv_at hl 2 rfl) ?_
  refine xl_X (M' := M2) (v := r) (As := []) (rest := []) (n := 0) Z (fun hd => kX5_again l D cs S56 uX hd S56_all  M (r, M2) f1) hP hD hS hA (xq_5 xb_743 xb_744 xb_745 xb_45 xb_378) ⟨rfl, by decide +kernel, by decide +kernel, by decide +kernel⟩ rfl ⟨rfl, rfl⟩ ⟨Nat.le_of_ble_eq_true rfl, Nat.le_of_ble_eq_true rfl⟩ hl rfl (Nat.le_of_ble_eq_true rfl) hcs dL_law_812 (fun H locs hP hD hS => ?_)
  refine lv_aload_n Z.1 Z.2.1 dL_law_815 rfl (lv_at hl 1 rfl) ?_
  refine xl_M (N' := N2) (v := r) (As := []) (rest := [.int r]) (n := 0) Z (fun hd => kX6_again l D cs S60 uN hd S60_all  N (r, N2) f2) hP hD hS hA (xq_5 xb_746 xb_747 xb_748 xb_394 xb_584) ⟨rfl, by decide +kernel, by decide +kernel, by decide +kernel⟩ rfl ⟨rfl, rfl⟩ ⟨Nat.le_of_ble_eq_true rfl, Nat.le_of_ble_eq_true rfl⟩ hl rfl (Nat.le_of_ble_eq_true rfl) hcs dL_law_816 (fun H locs hP hD hS => ?_)
  exact lv_icmp_eq (tgt := 847) Z.1 Z.2.1 dL_law_819 (by decide) (fun _ => K M2 N2 H locs hr hP hD hS) (fun h => absurd rfl h)
theorem law_count (Z : LX p s m c D cs) (hl : lv_has ls 4 (LV b i uX uN)) (hX : va_X b L xs s s.heap) (hbl : b < s.heap.size) (hbA : ¬ A b) (hA : ∀ q, s.heap.size ≤ q → A q) (hi : i + 4 ≤ L) (hL : L ≤ 256) (hcs : cells ≤ room_1.cells ∧ slots ≤ room_1.slots) (hrel : Rel M N) (hP : va_P D classes (xw S60 uN cs N ++ xw S56 uX cs M) H) (hD : va_D A (xw S60 uN cs N ++ xw S56 uX cs M)) (hS : va_S A s.heap H locs) (K : LK p l e s m args below meth c D cs A cells slots Q ls uX uN) : W p l e room_1 s m args below meth c H locs cells slots Q (F0 m 824 ls []) := by
  obtain ⟨R0, W0, K0, kn, L0, ln, T0, tl, hA0, hB0⟩ := id hrel
  obtain ⟨r, f1, f2⟩ := p_count (xs (i + 1)) hA0 hB0
  refine lv_aload_n Z.1 Z.2.1 dL_law_824 rfl (lv_at hl 2 rfl) ?_
  refine xl_arg Z hl hX hbl hbA hS hi hL 1 1 (by decide) (by decide) dL_law_825 dL_law_826 dL_law_827 dL_law_828 dL_law_829 ?_
  refine xl_X (M' := M) (v := r) (As := [.int (xs (i + 1))]) (rest := []) (n := 1) Z (fun hd => kX5_count l D cs S56 uX hd S56_all (xs (i + 1)) M r f1) hP hD hS hA (xq_5 xb_749 xb_750 xb_751 xb_45 xb_379) ⟨rfl, by decide +kernel, by decide +kernel, by decide +kernel⟩ rfl ⟨rfl, rfl⟩ ⟨Nat.le_of_ble_eq_true rfl, Nat.le_of_ble_eq_true rfl⟩ hl rfl (Nat.le_of_ble_eq_true rfl) hcs dL_law_830 (fun H locs hP hD hS => ?_)
  refine lv_aload_n Z.1 Z.2.1 dL_law_833 rfl (lv_at hl 1 rfl) ?_
  refine xl_arg Z hl hX hbl hbA hS hi hL 1 1 (by decide) (by decide) dL_law_834 dL_law_835 dL_law_836 dL_law_837 dL_law_838 ?_
  refine xl_M (N' := N) (v := r) (As := [.int (xs (i + 1))]) (rest := [.int r]) (n := 1) Z (fun hd => kX6_count l D cs S60 uN hd S60_all (xs (i + 1)) N r f2) hP hD hS hA (xq_5 xb_752 xb_753 xb_754 xb_394 xb_585) ⟨rfl, by decide +kernel, by decide +kernel, by decide +kernel⟩ rfl ⟨rfl, rfl⟩ ⟨Nat.le_of_ble_eq_true rfl, Nat.le_of_ble_eq_true rfl⟩ hl rfl (Nat.le_of_ble_eq_true rfl) hcs dL_law_839 (fun H locs hP hD hS => ?_)
  exact lv_icmp_eq (tgt := 847) Z.1 Z.2.1 dL_law_842 (by decide) (fun _ => K M N H locs hrel hP hD hS) (fun h => absurd rfl h)
end
