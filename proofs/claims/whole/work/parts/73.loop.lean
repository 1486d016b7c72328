/-! THE LAW: its loop -/
theorem dL_law_18 : decode cL_law 18 = .ok (.iload_n 3, 1) := by decide +kernel
theorem dL_law_19 : decode cL_law 19 = .ok (.aload_n 0, 1) := by decide +kernel
theorem dL_law_20 : decode cL_law 20 = .ok (.arraylength, 1) := by decide +kernel
theorem dL_law_21 : decode cL_law 21 = .ok (.iconst 4, 1) := by decide +kernel
theorem dL_law_22 : decode cL_law 22 = .ok (.isub, 1) := by decide +kernel
theorem dL_law_23 : decode cL_law 23 = .ok (.if_icmp .gt 830, 3) := by decide +kernel
theorem dL_law_26 : decode cL_law 26 = .ok (.aload_n 0, 1) := by decide +kernel
theorem dL_law_27 : decode cL_law 27 = .ok (.iload_n 3, 1) := by decide +kernel
theorem dL_law_28 : decode cL_law 28 = .ok (.iaload, 1) := by decide +kernel
theorem dL_law_29 : decode cL_law 29 = .ok (.bipush 31, 2) := by decide +kernel
theorem dL_law_31 : decode cL_law 31 = .ok (.iand, 1) := by decide +kernel
theorem dL_law_32 : decode cL_law 32 = .ok (.tableswitch 815 0 26 #[124, 187, 200, 213, 226, 259, 292, 315, 358, 381, 414, 447, 480, 493, 516, 539, 562, 595, 628, 671, 684, 697, 710, 733, 766, 779, 792], 124) := by decide +kernel
theorem dL_law_847 : decode cL_law 847 = .ok (.iinc 3 4, 3) := by decide +kernel
theorem dL_law_850 : decode cL_law 850 = .ok (.goto (-832), 3) := by decide +kernel
theorem dL_law_853 : decode cL_law 853 = .ok (.iconst 1, 1) := by decide +kernel
theorem dL_law_854 : decode cL_law 854 = .ok (.ireturn, 1) := by decide +kernel
section
variable {p : Program} {l : Launch} {e : Env} {s : State} {m : MethodId} {below : List Frame} {meth : Method} {c : Code} {D : va_G} {cs : Nat → ClassId} {b L : Nat} {xs : Nat → Int32} {uX uN : Nat → Nat}
theorem law_loop (Z : LX p s m c D cs) (hL : L ≤ 256) (C0 : lw_At p s m meth c b L xs) {cells slots : Nat} (hcs : cells ≤ room_1.cells ∧ slots ≤ room_1.slots) : ∀ (n i : Nat) (M N : xm) (H : Heap) (locs : List Loc) (ls : Array Slot), L < i + 4 + 4 * n → i ≤ 260 → Rel M N → lv_has ls 4 (LV b i uX uN) → va_P D classes (xw S60 uN cs N ++ xw S56 uX cs M) H → va_D (fun q : Nat => s.heap.size ≤ q) (xw S60 uN cs N ++ xw S56 uX cs M) → va_S (fun q : Nat => s.heap.size ≤ q) s.heap H locs → W p l e room_1 s m #[Value.ref b] below meth c H locs cells slots (lw_Z below #[Value.ref b] s) (F0 m 18 ls []) := by
  obtain ⟨hx, hb, hr, hml, hown, hts, hX, hbl, hlocks, hgv⟩ := id C0
  have hA : ∀ q : Nat, s.heap.size ≤ q → (fun q : Nat => s.heap.size ≤ q) q := fun _ h => h
  have hbA : ¬ (fun q : Nat => s.heap.size ≤ q) b := Nat.not_le.mpr hbl
  have top : ∀ (i : Nat) (H : Heap) (locs : List Loc) (ls : Array Slot), i ≤ 260 → lv_has ls 4 (LV b i uX uN) → va_S (fun q : Nat => s.heap.size ≤ q) s.heap H locs → (i + 4 ≤ L → W p l e room_1 s m #[Value.ref b] below meth c H locs cells slots (lw_Z below #[Value.ref b] s) (F0 m 26 ls [])) → W p l e room_1 s m #[Value.ref b] below meth c H locs cells slots (lw_Z below #[Value.ref b] s) (F0 m 18 ls []) := by
    intro i H locs ls hi hl hS kk
    refine lv_iload_n Z.1 Z.2.1 dL_law_18 rfl (lv_at hl 0 rfl) ?_
    refine lv_aload_n Z.1 Z.2.1 dL_law_19 rfl (lv_at hl 3 rfl) ?_
    refine va_slen Z.1 Z.2.1 hX hbl hbA hS dL_law_20 ?_
    refine lv_iconst (v := 4) Z.1 Z.2.1 dL_law_21 (by decide) ?_
    refine lv_isub Z.1 Z.2.1 dL_law_22 ?_
    refine lv_icmp_gt (tgt := 853) Z.1 Z.2.1 dL_law_23 (by decide) (fun h => ?_) (fun h => ?_)
    · refine lv_iconst (v := 1) Z.1 Z.2.1 dL_law_853 (by decide) ?_
      refine va_forget hS.2.2 ?_
      refine W.widen (k := 600000) (n := 7302250) hcs.1 hcs.2 ?_
      exact lw_ret hx hb hr hlocks dL_law_854
    · exact kk (by have h : ¬ (nI L - 4 < nI i) := h; rw [sub4 hL (by omega)] at h; omega)
  intro n
  induction n with
  | zero =>
    intro i M N H locs ls hn hi hrel hl hP hD hS
    exact top i H locs ls hi hl hS (fun h => absurd h (by omega))
  | succ n ih =>
    intro i M N H locs ls hn hi hrel hl hP hD hS
    refine top i H locs ls hi hl hS (fun hi4 => ?_)
    have K : LK p l e s m #[Value.ref b] below meth c D cs (fun q : Nat => s.heap.size ≤ q) cells slots (lw_Z below #[Value.ref b] s) ls uX uN := by
      intro M N H locs hrel hP hD hS
      refine lv_iinc (k := 0) (v := nI (i + 4)) (lv' := LV b (i + 4) uX uN) Z.1 Z.2.1 dL_law_847 hl rfl (by rw [show Int32.ofInt 4 = nI 4 by decide, add_e]) (by decide) rfl (fun ls hl => ?_)
      refine lv_goto (tgt := 18) Z.1 Z.2.1 dL_law_850 (by decide) ?_
      exact ih (i + 4) M N H locs ls (by omega) (by omega) hrel hl hP hD hS
    refine lv_aload_n Z.1 Z.2.1 dL_law_26 rfl (lv_at hl 3 rfl) ?_
    refine lv_iload_n Z.1 Z.2.1 dL_law_27 rfl (lv_at hl 0 rfl) ?_
    refine va_sld Z.1 Z.2.1 hX hbl hbA hS (nI_in (by omega) (by omega)) dL_law_28 ?_
    rw [cl_e (by omega)]
    refine lv_bipush (v := 31) Z.1 Z.2.1 dL_law_29 (by decide) ?_
    refine lv_iand Z.1 Z.2.1 dL_law_31 ?_
    obtain ⟨v, hv, ev⟩ := and31 (xs i)
    rw [ev]
    by_cases c26 : v ≤ 26
    · rcases (show v = 0 ∨ v = 1 ∨ v = 2 ∨ v = 3 ∨ v = 4 ∨ v = 5 ∨ v = 6 ∨ v = 7 ∨ v = 8 ∨ v = 9 ∨ v = 10 ∨ v = 11 ∨ v = 12 ∨ v = 13 ∨ v = 14 ∨ v = 15 ∨ v = 16 ∨ v = 17 ∨ v = 18 ∨ v = 19 ∨ v = 20 ∨ v = 21 ∨ v = 22 ∨ v = 23 ∨ v = 24 ∨ v = 25 ∨ v = 26 by omega) with rfl | rfl | rfl | rfl | rfl | rfl | rfl | rfl | rfl | rfl | rfl | rfl | rfl | rfl | rfl | rfl | rfl | rfl | rfl | rfl | rfl | rfl | rfl | rfl | rfl | rfl | rfl
      · exact lv_tableIn (off := 124) (tgt := 156) Z.1 Z.2.1 dL_law_32 (by decide) (by decide) (by decide) (by decide) (law_write Z hl hX hbl hbA hA hi4 hL hcs hrel hP hD hS K)
      · exact lv_tableIn (off := 187) (tgt := 219) Z.1 Z.2.1 dL_law_32 (by decide) (by decide) (by decide) (by decide) (law_wipe Z hl hX hbl hbA hA hi4 hL hcs hrel hP hD hS K)
      · exact lv_tableIn (off := 200) (tgt := 232) Z.1 Z.2.1 dL_law_32 (by decide) (by decide) (by decide) (by decide) (law_fault Z hl hX hbl hbA hA hi4 hL hcs hrel hP hD hS K)
      · exact lv_tableIn (off := 213) (tgt := 245) Z.1 Z.2.1 dL_law_32 (by decide) (by decide) (by decide) (by decide) (law_lay Z hl hX hbl hbA hA hi4 hL hcs hrel hP hD hS K)
      · exact lv_tableIn (off := 226) (tgt := 258) Z.1 Z.2.1 dL_law_32 (by decide) (by decide) (by decide) (by decide) (law_parish Z hl hX hbl hbA hA hi4 hL hcs hrel hP hD hS K)
      · exact lv_tableIn (off := 259) (tgt := 291) Z.1 Z.2.1 dL_law_32 (by decide) (by decide) (by decide) (by decide) (law_member Z hl hX hbl hbA hA hi4 hL hcs hrel hP hD hS K)
      · exact lv_tableIn (off := 292) (tgt := 324) Z.1 Z.2.1 dL_law_32 (by decide) (by decide) (by decide) (by decide) (law_hours Z hl hX hbl hbA hA hi4 hL hcs hrel hP hD hS K)
      · exact lv_tableIn (off := 315) (tgt := 347) Z.1 Z.2.1 dL_law_32 (by decide) (by decide) (by decide) (by decide) (law_voices Z hl hX hbl hbA hA hi4 hL hcs hrel hP hD hS K)
      · exact lv_tableIn (off := 358) (tgt := 390) Z.1 Z.2.1 dL_law_32 (by decide) (by decide) (by decide) (by decide) (law_read Z hl hX hbl hbA hA hi4 hL hcs hrel hP hD hS K)
      · exact lv_tableIn (off := 381) (tgt := 413) Z.1 Z.2.1 dL_law_32 (by decide) (by decide) (by decide) (by decide) (law_bill Z hl hX hbl hbA hA hi4 hL hcs hrel hP hD hS K)
      · exact lv_tableIn (off := 414) (tgt := 446) Z.1 Z.2.1 dL_law_32 (by decide) (by decide) (by decide) (by decide) (law_mile Z hl hX hbl hbA hA hi4 hL hcs hrel hP hD hS K)
      · exact lv_tableIn (off := 447) (tgt := 479) Z.1 Z.2.1 dL_law_32 (by decide) (by decide) (by decide) (by decide) (law_who Z hl hX hbl hbA hA hi4 hL hcs hrel hP hD hS K)
      · exact lv_tableIn (off := 480) (tgt := 512) Z.1 Z.2.1 dL_law_32 (by decide) (by decide) (by decide) (by decide) (law_arrives Z hl hX hbl hbA hA hi4 hL hcs hrel hP hD hS K)
      · exact lv_tableIn (off := 493) (tgt := 525) Z.1 Z.2.1 dL_law_32 (by decide) (by decide) (by decide) (by decide) (law_would Z hl hX hbl hbA hA hi4 hL hcs hrel hP hD hS K)
      · exact lv_tableIn (off := 516) (tgt := 548) Z.1 Z.2.1 dL_law_32 (by decide) (by decide) (by decide) (by decide) (law_order Z hl hX hbl hbA hA hi4 hL hcs hrel hP hD hS K)
      · exact lv_tableIn (off := 539) (tgt := 571) Z.1 Z.2.1 dL_law_32 (by decide) (by decide) (by decide) (by decide) (law_back Z hl hX hbl hbA hA hi4 hL hcs hrel hP hD hS K)
      · exact lv_tableIn (off := 562) (tgt := 594) Z.1 Z.2.1 dL_law_32 (by decide) (by decide) (by decide) (by decide) (law_parties Z hl hX hbl hbA hA hi4 hL hcs hrel hP hD hS K)
      · exact lv_tableIn (off := 595) (tgt := 627) Z.1 Z.2.1 dL_law_32 (by decide) (by decide) (by decide) (by decide) (law_join Z hl hX hbl hbA hA hi4 hL hcs hrel hP hD hS K)
      · exact lv_tableIn (off := 628) (tgt := 660) Z.1 Z.2.1 dL_law_32 (by decide) (by decide) (by decide) (by decide) (law_diary Z hl hX hbl hbA hA hi4 hL hcs hrel hP hD hS K)
      · exact lv_tableIn (off := 671) (tgt := 703) Z.1 Z.2.1 dL_law_32 (by decide) (by decide) (by decide) (by decide) (law_noDiary Z hl hX hbl hbA hA hi4 hL hcs hrel hP hD hS K)
      · exact lv_tableIn (off := 684) (tgt := 716) Z.1 Z.2.1 dL_law_32 (by decide) (by decide) (by decide) (by decide) (law_wrong Z hl hX hbl hbA hA hi4 hL hcs hrel hP hD hS K)
      · exact lv_tableIn (off := 697) (tgt := 729) Z.1 Z.2.1 dL_law_32 (by decide) (by decide) (by decide) (by decide) (law_late Z hl hX hbl hbA hA hi4 hL hcs hrel hP hD hS K)
      · exact lv_tableIn (off := 710) (tgt := 742) Z.1 Z.2.1 dL_law_32 (by decide) (by decide) (by decide) (by decide) (law_year Z hl hX hbl hbA hA hi4 hL hcs hrel hP hD hS K)
      · exact lv_tableIn (off := 733) (tgt := 765) Z.1 Z.2.1 dL_law_32 (by decide) (by decide) (by decide) (by decide) (law_ten Z hl hX hbl hbA hA hi4 hL hcs hrel hP hD hS K)
      · exact lv_tableIn (off := 766) (tgt := 798) Z.1 Z.2.1 dL_law_32 (by decide) (by decide) (by decide) (by decide) (law_keep Z hl hX hbl hbA hA hi4 hL hcs hrel hP hD hS K)
      · exact lv_tableIn (off := 779) (tgt := 811) Z.1 Z.2.1 dL_law_32 (by decide) (by decide) (by decide) (by decide) (law_again Z hl hX hbl hbA hA hi4 hL hcs hrel hP hD hS K)
      · exact lv_tableIn (off := 792) (tgt := 824) Z.1 Z.2.1 dL_law_32 (by decide) (by decide) (by decide) (by decide) (law_count Z hl hX hbl hbA hA hi4 hL hcs hrel hP hD hS K)
    · exact lv_tableOut (tgt := 847) Z.1 Z.2.1 dL_law_32 (Or.inr (by rw [nI_toInt (by omega)]; omega)) (by decide) (K M N H locs hrel hP hD hS)
end
